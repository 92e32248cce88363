/-! THE REFERENCE'S LOOKER: resources, rows of values -/
theorem bit_l {a : Nat} (ha : a < 64) : (1 : Int64) <<< ((nI a).toInt64 &&& 63) = bitO a := by
  unfold bitO
  have e1 : (nI a).toInt64 &&& 63 = lN a := by
    rw [nI_l (by omega)]
    apply N_inj
    rw [N_and, N_lN (by omega), show N 63 = 2 ^ 6 - 1 from rfl, Nat.and_two_pow_sub_one_eq_mod]
    omega
  rw [e1]
theorem m15 : ∀ a, a < 64 → (48 : Int32) + (nI a - nI a / 15 * 15) = nI (48 + a % 15) := by decide
theorem fl4 : ∀ a, a < 8 → ((nI a &&& 4 = 0) ↔ a / 4 % 2 = 0) := by decide
section
variable {F n : Nat} {sh : Nat → Nat × Nat} {z z' : St} {ku f w ns : Nat} {ls : List Ty} {L : Lks} {U : Md}
theorem OpR.lift {z2 : St} {X : Option (St × Unit)} {r : Px Lks} (fz : FrLk z z2) (h : OpR sh n z2 ku f ls ns X r) : OpR sh n z ku f ls ns X r := by
  obtain ⟨z3, x1, x2, x3⟩ := h
  exact ⟨z3, x1, x2, fz.trans x3⟩
/-- a reference is pushed -/
theorem RK.pushB (hF : 300 ≤ F) (h : RK sh n z ku f ls ns 0 L) {t : Ty} (ht : TBr ns t) (hp : isR t = false) (h6 : t.length ≤ 6) {r : Nat} (hr : r = 8 ∨ r = 9) (o : Int64) (b : Bool) : ∃ z', fn_X13_before F sh n z (nI r) (tL t) = some (z, tL (r :: t)) ∧ fn_X13_push F sh n z 355 (tL (r :: t)) o (bI b) = some (z', ()) ∧ RR sh n z' ku f ls ns (lPush (r :: t, o, b) L) ∧ FrLk z z' := by
  obtain ⟨z2, p1, p2, p3, p4⟩ := h.pushP (F := F) hF (ht.bor hp h6 hr) o b
  refine ⟨z2, beforeR_t hF (by omega) ht.1 h6, p1, ?_, p3⟩
  have x1 : rO (r :: t) o = o := by unfold rO; rw [isR_c hr]; rfl
  have x2 : rI (r :: t) b = b := by unfold rI; rw [isR_c hr]; rfl
  rw [x1, x2] at p2
  exact p2
theorem RK.onResource (hF : 300 ≤ F) (h : RK sh n z ku f ls U.1.2.2 0 L) (hu : ∀ z', FrLk z z' → UnL F sh n z' ku U) (hm : MdO U) (hf : f < faOf U) {o a : Nat} (o1 : 47 ≤ o) (o2 : o < 52) (ha : a < U.1.2.1) : OpR sh n z ku f ls U.1.2.2 (fn_X13_onResource F sh n z 355 (nI o) (nI a)) (aRes U ls f o a L) := by
  have hsz := hm.2.1
  have a64 : a < 64 := by omega
  have ts : TBr U.1.2.2 [6, a] := TBrs (by omega) (by omega)
  have eK : hasK U [6, a] = (U.2.1 a / 8 % 2 == 1) := by
    unfold hasK abT
    rw [if_neg (by simp [isR, hdT])]
    simp [endS, hdT]
  have key : ∀ (T : Ty) (x : Int64), TB T → x = tL T → T = (if o = 47 then [6, a] else [5]) → OpR sh n z ku f ls U.1.2.2 (cal (fn_X13_take_ F sh n z 355 x) (fun z_71 _ => fn_X13_onResource_B35 F sh n 355 (nI a) (nI o) (nI (48 + a % 15)) (tL [6, a]) z_71)) (aRes U ls f o a L) := fun T x tb ex eT => by
    subst ex
    unfold aRes
    rw [← eT]
    obtain ⟨z1, q1, q2, q3⟩ := h.takeTP (F := F) tb
    rw [q1, cal_s, lTakeT_q]
    -- flags and abilities can be read in any state
    have rd : ∀ z2 w M, RK sh n z2 ku f ls U.1.2.2 w M → FrLk z z2 → fn_X13_onResource_B35 F sh n 355 (nI a) (nI o) (nI (48 + a % 15)) (tL [6, a]) z2 = fn_X13_onResource_B57 F sh n 355 (nI a) (nI o) (nI (48 + a % 15)) (tL [6, a]) z2 (bI (resOf U f)) := fun z2 w M k fz => by
      have un := hu z2 fz
      have fl := ((un.2.1 f hf).1).2.2
      have f8 := (hm.2.2.2.2 f hf).1
      unfold fn_X13_onResource_B35 resOf
      rw [k.o13, grd_true, k.2.1.1, lnk_s, un.1, grd_true, k.2.1.2.1, fl, cal_s]
      by_cases c : (fnOf U f).1 / 4 % 2 = 0
      · rw [if_pos ((fl4 _ f8).mpr c), c]; rfl
      · rw [if_neg (fun q => c ((fl4 _ f8).mp q)), show (fnOf U f).1 / 4 % 2 = 1 by omega]; rfl
    have rd2 : ∀ z2 w M, RK sh n z2 ku f ls U.1.2.2 w M → FrLk z z2 → (lnk (z2.2.2 355 0) (fun k_16 => grd (okO sh n k_16 16) (cal (fn_X16_abilitiesOf F sh n z2 k_16 (nI a)) (fun z_17 r_18 => if ((r_18 &&& 8) : Int32) = 0 then fn_X13_onResource_B82 F sh n 355 (nI o) (nI (48 + a % 15)) (tL [6, a]) z_17 0 else fn_X13_onResource_B82 F sh n 355 (nI o) (nI (48 + a % 15)) (tL [6, a]) z_17 1)))) = fn_X13_onResource_B82 F sh n 355 (nI o) (nI (48 + a % 15)) (tL [6, a]) z2 (bI (hasK U [6, a])) := fun z2 w M k fz => by
      have un := hu z2 fz
      rw [k.2.1.1, lnk_s, un.1, grd_true, un.2.2.2.1 a (by omega), cal_s, eK]
      have a16 := hm.1 a (by omega)
      by_cases c : U.2.1 a / 8 % 2 = 0
      · rw [if_pos ((ab1 _ a16).2.2.mpr c), c]; rfl
      · rw [if_neg (fun q => c ((ab1 _ a16).2.2.mp q)), show U.2.1 a / 8 % 2 = 1 by omega]; rfl
    have err : ∀ z2 w M, RK sh n z2 ku f ls U.1.2.2 w M → 0 < w → FrLk z z2 → fn_X13_onResource_B35 F sh n 355 (nI a) (nI o) (nI (48 + a % 15)) (tL [6, a]) z2 = some (z2, ()) := fun z2 w M k w0 fz => by
      rw [rd z2 w M k fz]
      unfold fn_X13_onResource_B57
      rw [k.need_e w0, cal_s, rd2 z2 w M k fz]
      unfold fn_X13_onResource_B82
      rw [k.need_e w0, cal_s, if_neg (k.ee w0)]
    cases r : lTakeQ T L with
    | error w =>
      rw [r] at q2
      obtain ⟨w0, M, q2⟩ := q2
      exact ⟨z1, err z1 w M q2 w0 q3, ⟨w0, M, q2⟩, q3⟩
    | ok q =>
      rw [r] at q2
      obtain ⟨k1, k2, k3⟩ := q2
      rw [ok_b, ok_b, rd z1 0 _ k1 q3]
      generalize q.2 = M at *
      unfold fn_X13_onResource_B57
      obtain ⟨z2, s1, s2, s3, s4, s5⟩ := k1.nd (F := F) (resOf U f) (v := 15) (by omega) (by omega)
      have s1' : fn_X13_need F sh n z1 355 (bI (resOf U f)) 15 = some (z2, ()) := s1
      rw [s1', cal_s]
      cases e15 : resOf U f with
      | false =>
        have k := s5 e15
        rw [rd2 z2 15 _ k (q3.trans s2)]
        unfold fn_X13_onResource_B82
        rw [k.need_e (by omega), cal_s, if_neg (k.ee (by omega))]
        exact ⟨z2, rfl, ⟨by decide, _, k⟩, q3.trans s2⟩
      | true =>
        have k := s4 e15
        rw [rd2 z2 0 _ k (q3.trans s2), nd_t, ok_b]
        unfold fn_X13_onResource_B82
        obtain ⟨z3, u1, u2, u3, u4, u5⟩ := k.nd (F := F) (hasK U [6, a]) (v := 4) (by omega) (by omega)
        have u1' : fn_X13_need F sh n z2 355 (bI (hasK U [6, a])) 4 = some (z3, ()) := u1
        rw [u1', cal_s]
        cases e4 : hasK U [6, a] with
        | false =>
          have k' := u5 e4
          rw [if_neg (k'.ee (by omega))]
          exact ⟨z3, rfl, ⟨by decide, _, k'⟩, (q3.trans s2).trans u2⟩
        | true =>
          have k' := u4 e4
          rw [if_pos k'.e0, nd_t, ok_b]
          refine OpR.lift ((q3.trans s2).trans u2) ?_
          have b64 : 48 + a % 15 < 64 := by omega
          have p0 : ∀ z4 w, RK sh n z4 ku f ls U.1.2.2 w M → fn_X13_isPointed F sh n z4 355 (nI (48 + a % 15)) 0 = some (z4, bI (lPt ls M (48 + a % 15) false)) := fun z4 w k => k.pt hF b64 false
          have p1 : ∀ z4 w, RK sh n z4 ku f ls U.1.2.2 w M → fn_X13_isPointed F sh n z4 355 (nI (48 + a % 15)) 1 = some (z4, bI (lPt ls M (48 + a % 15) true)) := fun z4 w k => k.pt hF b64 true
          -- the end, with no fault so far
          have fin : ∀ z4, RK sh n z4 ku f ls U.1.2.2 0 M → OpR sh n z4 ku f ls U.1.2.2 (fn_X13_onResource_B154 F sh n (nI o) 355 (tL [6, a]) (nI (48 + a % 15)) z4) (if o = 48 then lPush ([6, a], 0, false) M else if o = 49 then lPush ([1], 0, false) M else if o = 47 then .ok M else lPush ((if o = 50 then 8 else 9) :: [6, a], bitO (48 + a % 15), false) M) := fun z4 k4 => by
            have o5 : o = 47 ∨ o = 48 ∨ o = 49 ∨ o = 50 ∨ o = 51 := by omega
            rcases o5 with e | e | e | e | e
            · subst e
              exact ⟨z4, rfl, k4, FrLk.rfl'⟩
            · subst e
              obtain ⟨z5, g1, g2, g3⟩ := k4.giveP (F := F) hF ts
              refine ⟨z5, ?_, g2, g3⟩
              show cal (fn_X13_give F sh n z4 355 (tL [6, a])) (fun z_43 _ => fn_X13_onResource_B165 F sh n (nI 48) 355 (tL [6, a]) (nI (48 + a % 15)) z_43) = _
              rw [g1, cal_s]; rfl
            · subst e
              obtain ⟨z5, g1, g2, g3⟩ := k4.giveP (F := F) hF (t := [1]) (TBrk (by omega) (by omega))
              have g1' : fn_X13_give F sh n z4 355 1 = some (z5, ()) := by rw [← g1, tLk]; rfl
              refine ⟨z5, ?_, g2, g3⟩
              show cal (fn_X13_give F sh n z4 355 1) (fun z_40 _ => fn_X13_onResource_B176 F sh n (nI 49) (tL [6, a]) 355 (nI (48 + a % 15)) z_40) = _
              rw [g1', cal_s]; rfl
            · subst e
              obtain ⟨z5, g0, g1, g2, g3⟩ := k4.pushB (F := F) hF ts rfl (by simp) (r := 8) (.inl rfl) (bitO (48 + a % 15)) false
              have g0' : fn_X13_before F sh n z4 8 (tL [6, a]) = some (z4, tL (8 :: [6, a])) := g0
              have g1' : fn_X13_push F sh n z4 355 (tL (8 :: [6, a])) (bitO (48 + a % 15)) 0 = some (z5, ()) := g1
              refine ⟨z5, ?_, g2, g3⟩
              show fn_X13_onResource_B196 F sh n (tL [6, a]) 355 (nI (48 + a % 15)) z4 8 = _
              unfold fn_X13_onResource_B196
              rw [g0', cal_s, bit_l b64, g1', cal_s]
            · subst e
              obtain ⟨z5, g0, g1, g2, g3⟩ := k4.pushB (F := F) hF ts rfl (by simp) (r := 9) (.inr rfl) (bitO (48 + a % 15)) false
              have g0' : fn_X13_before F sh n z4 9 (tL [6, a]) = some (z4, tL (9 :: [6, a])) := g0
              have g1' : fn_X13_push F sh n z4 355 (tL (9 :: [6, a])) (bitO (48 + a % 15)) 0 = some (z5, ()) := g1
              refine ⟨z5, ?_, g2, g3⟩
              show fn_X13_onResource_B196 F sh n (tL [6, a]) 355 (nI (48 + a % 15)) z4 9 = _
              unfold fn_X13_onResource_B196
              rw [g0', cal_s, bit_l b64, g1', cal_s]
          -- the end, with a fault
          have fine : ∀ z4 w, RK sh n z4 ku f ls U.1.2.2 w M → 0 < w → fn_X13_onResource_B154 F sh n (nI o) 355 (tL [6, a]) (nI (48 + a % 15)) z4 = some (z4, ()) := fun z4 w k4 w0 => by
            have o5 : o = 47 ∨ o = 48 ∨ o = 49 ∨ o = 50 ∨ o = 51 := by omega
            have b96 : ∀ p, fn_X13_onResource_B196 F sh n (tL [6, a]) 355 (nI (48 + a % 15)) z4 p = some (z4, ()) := fun p => by
              unfold fn_X13_onResource_B196
              obtain ⟨x, e⟩ := bef_e (F := F) (n := n) (sh := sh) (z := z4) hF ts.1 p
              rw [e, cal_s, k4.push_e (by omega), cal_s]
            rcases o5 with e | e | e | e | e
            · subst e; rfl
            · subst e
              show cal (fn_X13_give F sh n z4 355 (tL [6, a])) (fun z_43 _ => fn_X13_onResource_B165 F sh n (nI 48) 355 (tL [6, a]) (nI (48 + a % 15)) z_43) = _
              rw [k4.give_e (by omega), cal_s]; rfl
            · subst e
              show cal (fn_X13_give F sh n z4 355 1) (fun z_40 _ => fn_X13_onResource_B176 F sh n (nI 49) (tL [6, a]) 355 (nI (48 + a % 15)) z_40) = _
              rw [k4.give_e (by omega), cal_s]; rfl
            · subst e; exact b96 8
            · subst e; exact b96 9
          -- whether something points there
          have b122 : ∀ g g' : Bool, g' = g → o ≠ 50 → OpR sh n z3 ku f ls U.1.2.2 (fn_X13_onResource_B122 F sh n 355 (nI o) (nI (48 + a % 15)) (tL [6, a]) z3 (bI g)) (nd_ g' 6 >>= fun _ => if o = 48 then lPush ([6, a], 0, false) M else if o = 49 then lPush ([1], 0, false) M else if o = 47 then .ok M else lPush ((if o = 50 then 8 else 9) :: [6, a], bitO (48 + a % 15), false) M) := fun g g' eg n50 => by
            subst eg
            obtain ⟨z4, v1, v2, v3, v4, v5⟩ := k'.nd (F := F) g' (v := 6) (by omega) (by omega)
            have v1' : fn_X13_need F sh n z3 355 (bI g') 6 = some (z4, ()) := v1
            unfold fn_X13_onResource_B122 fn_X13_onResource_B127
            rw [v1', cal_s, if_neg (fun q => n50 ((nIe (x := 50) 50 rfl (by omega) (by omega)).mp q))]
            cases g' with
            | false =>
              have k4 := v5 rfl
              exact ⟨z4, fine z4 6 k4 (by omega), ⟨by decide, _, k4⟩, v2⟩
            | true => exact OpR.lift v2 (fin z4 (v4 rfl))
          have b149 : ∀ g g' : Bool, g' = g → OpR sh n z3 ku f ls U.1.2.2 (fn_X13_onResource_B149 F sh n 355 (nI o) (tL [6, a]) (nI (48 + a % 15)) z3 (bI g)) (nd_ g' 6 >>= fun _ => if o = 48 then lPush ([6, a], 0, false) M else if o = 49 then lPush ([1], 0, false) M else if o = 47 then .ok M else lPush ((if o = 50 then 8 else 9) :: [6, a], bitO (48 + a % 15), false) M) := fun g g' eg => by
            subst eg
            obtain ⟨z4, v1, v2, v3, v4, v5⟩ := k'.nd (F := F) g' (v := 6) (by omega) (by omega)
            have v1' : fn_X13_need F sh n z3 355 (bI g') 6 = some (z4, ()) := v1
            unfold fn_X13_onResource_B149
            rw [v1', cal_s]
            cases g' with
            | false =>
              have k4 := v5 rfl
              exact ⟨z4, fine z4 6 k4 (by omega), ⟨by decide, _, k4⟩, v2⟩
            | true => exact OpR.lift v2 (fin z4 (v4 rfl))
          by_cases c48 : o = 48 ∨ o = 51
          · have n50 : o ≠ 50 := by omega
            have e1 : (!(o == 48 || o == 51) || !lPt ls M (48 + a % 15) false) = !lPt ls M (48 + a % 15) false := by
              rcases c48 with e | e <;> subst e <;> rfl
            have e2 : (!(o == 50) || !lPt ls M (48 + a % 15) true) = true := by
              rw [show (o == 50) = false from beq_eq_false_iff_ne.mpr n50]; rfl
            rw [e1, e2, nd_t]
            have b106 : OpR sh n z3 ku f ls U.1.2.2 (fn_X13_onResource_B106 F sh n 355 (nI (48 + a % 15)) (nI o) (tL [6, a]) z3) (nd_ (!lPt ls M (48 + a % 15) false) 6 >>= fun _ => (Except.ok () : Px Unit) >>= fun _ => if o = 48 then lPush ([6, a], 0, false) M else if o = 49 then lPush ([1], 0, false) M else if o = 47 then .ok M else lPush ((if o = 50 then 8 else 9) :: [6, a], bitO (48 + a % 15), false) M) := by
              unfold fn_X13_onResource_B106
              rw [p0 z3 0 k', cal_s]
              cases lPt ls M (48 + a % 15) false with
              | false => rw [if_pos (show bI false = 0 from rfl)]; exact b122 true _ rfl n50
              | true => rw [if_neg (show ¬ bI true = 0 from one0)]; exact b122 false _ rfl n50
            rcases c48 with e | e
            · subst e; exact b106
            · subst e; exact b106
          · have e1 : (!(o == 48 || o == 51) || !lPt ls M (48 + a % 15) false) = true := by
              rw [show (o == 48) = false from beq_eq_false_iff_ne.mpr (by omega), show (o == 51) = false from beq_eq_false_iff_ne.mpr (by omega)]; rfl
            rw [e1, nd_t, ok_b, if_neg (fun q => c48 (.inl ((nIe (x := 48) 48 rfl (by omega) (by omega)).mp q))), if_neg (fun q => c48 (.inr ((nIe (x := 51) 51 rfl (by omega) (by omega)).mp q)))]
            unfold fn_X13_onResource_B127
            by_cases c50 : o = 50
            · rw [if_pos ((nIe (x := 50) 50 rfl (by omega) (by omega)).mpr c50), p1 z3 0 k', cal_s]
              have e2 : (!(o == 50) || !lPt ls M (48 + a % 15) true) = !lPt ls M (48 + a % 15) true := by subst c50; rfl
              rw [e2]
              cases lPt ls M (48 + a % 15) true with
              | false => rw [if_pos (show bI false = 0 from rfl)]; exact b149 true _ rfl
              | true => rw [if_neg (show ¬ bI true = 0 from one0)]; exact b149 false _ rfl
            · have e2 : (!(o == 50) || !lPt ls M (48 + a % 15) true) = true := by
                rw [show (o == 50) = false from beq_eq_false_iff_ne.mpr c50]; rfl
              rw [if_neg (fun q => c50 ((nIe (x := 50) 50 rfl (by omega) (by omega)).mp q)), e2, nd_t, ok_b]
              exact fin z3 k'
  unfold fn_X13_onResource
  rw [stR_t (by omega), cal_s, m15 a a64, lt_t]
  by_cases c47 : o = 47
  · rw [if_pos ((nIe (x := 47) 47 rfl (by omega) (by omega)).mpr c47), h.o13, grd_true]
    exact key [6, a] _ ts.1 rfl (by rw [if_pos c47])
  · rw [if_neg (fun q => c47 ((nIe (x := 47) 47 rfl (by omega) (by omega)).mp q)), h.o13, grd_true]
    exact key [5] _ (TBk (by omega) (by omega)) (by rw [tLk]; rfl) (by rw [if_neg c47])
end
