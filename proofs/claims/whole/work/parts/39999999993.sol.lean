/-! THE REFERENCE'S LOOKER: looking at one instruction, as a whole -/
section
variable {F n : Nat} {sh : Nat → Nat × Nat} {z z' : St} {ku f w ns : Nat} {ls : List Ty} {L M : Lks} {U : Md} {R : Nat → Option Lc} {S : Nat × (Nat → SS)}
/-- what follows when the locals are loaded -/
def lookT (F : Nat) (sh : Nat → Nat × Nat) (n : Nat) (x0 : Int32) (z : St) : Option (St × Unit) := lnk (z.2.2 355 0) (fun k_17 => grd (okO sh n k_17 16) (cal (fn_X16_operation F sh n z k_17 (z.1 355 1) x0) (fun z_18 r_19 => lnk (z_18.2.2 355 0) (fun k_22 => grd (okO sh n k_22 16) (cal (fn_X16_operand F sh n z_18 k_22 (z_18.1 355 1) x0 0) (fun z_23 r_24 => lt_ ((r_24 : Int64).toInt32) (fun v_27 => lnk (z_23.2.2 355 0) (fun k_28 => grd (okO sh n k_28 16) (cal (fn_X16_operand F sh n z_23 k_28 (z_23.1 355 1) x0 1) (fun z_29 r_30 => cal (fn_X13_operate F sh n z_29 355 r_19 v_27 ((r_30 : Int64).toInt32)) (fun z_33 _ => if (r_19 : Int32) ≤ 1 then fn_X13_look_B178 F sh n r_19 355 x0 z_33  else if (5 : Int32) ≤ r_19 then fn_X13_look_B178 F sh n r_19 355 x0 z_33  else cal (fn_X13_come F sh n z_33 355 x0 v_27) (fun z_54 _ => fn_X13_look_B178 F sh n r_19 355 x0 z_54 ))))))))))))
theorem look_l {i : Nat} (hi : i < 1025) {Q : Lc} (hQ : R i = some Q) : ∀ r p g z1 C, p + r = ls.length → r < g → RK sh n z1 ku f ls ns 0 (S, C) → RcS z1 ls.length R → (∀ k, k < p → C.1 k = Q.1 k ∧ C.2.1 k = Q.2.1 k ∧ C.2.2 k = Q.2.2 k) → ∃ z', fn_X13_look_L49 F sh n 355 (nI i) g z1 (nI p) = lookT F sh n (nI i) z' ∧ RK sh n z' ku f ls ns 0 (S, Q) ∧ RcS z' ls.length R ∧ FrLk z1 z' := by
  intro r
  induction r with
  | zero =>
    intro p g z1 C ep hg k P hC
    obtain ⟨g, rfl⟩ : ∃ q, g = q + 1 := ⟨g - 1, by omega⟩
    have a5 := k.2.1.2.2.2.1
    conv => enter [1, z', 1, 1]; unfold fn_X13_look_L49
    rw [k.2.1.2.2.1, if_pos ((nI_leI (by omega) (by omega)).mpr (by omega))]
    exact ⟨z1, rfl, k.ext (fun j hj => hC j (by omega)), P, FrLk.rfl'⟩
  | succ r ih =>
    intro p g z1 C ep hg k P hC
    obtain ⟨g, rfl⟩ : ∃ q, g = q + 1 := ⟨g - 1, by omega⟩
    have a5 := k.2.1.2.2.2.1
    have hp : p < ls.length := by omega
    obtain ⟨ok, cp, _⟩ := k.lr hp
    obtain ⟨okj, cj⟩ := k.ok40 (j := 40 * i + p) (by omega)
    obtain ⟨k2, f2⟩ := k.setL hp (Q.1 p) (Q.2.1 p) (Q.2.2 p)
    obtain ⟨r1, r2, r3⟩ := (P i hi).2 Q hQ p hp
    obtain ⟨z2, s1, s2, s3, s4⟩ := ih (p + 1) g _ (lSetL (S, C) p (Q.1 p) (Q.2.1 p) (Q.2.2 p)).2 (by omega) (by omega) k2 (P.lk f2) (fun j hj => by
      by_cases c : j = p
      · subst c; simp [lSetL]
      · simp [lSetL, c]; exact hC j (by omega))
    refine ⟨z2, ?_, s2, s3, f2.trans s4⟩
    rw [← s1]
    have o59 := okj 359 103 rfl (by omega)
    have o60 := okj 360 102 rfl (by omega)
    have o61 := okj 361 103 rfl (by omega)
    have o65 := ok 365 103 rfl (by omega)
    have o66 := ok 366 102 rfl (by omega)
    have o67 := ok 367 103 rfl (by omega)
    conv => lhs; unfold fn_X13_look_L49
    rw [k.2.1.2.2.1, if_neg (fun q => by have := (nI_leI (by omega) (by omega)).mp q; omega), v40 hi (by omega), k.1.2.2 355 15 365 rfl, lnk_s, k.1.2.2 355 8 359 rfl, lnk_s, o59, grd_true, o65, grd_true, lt_t, cj, cp, r1, nar_bI, si_3, k.1.2.2 355 16 366 rfl, lnk_s, k.1.2.2 355 9 360 rfl, lnk_s, o60, grd_true, o66, grd_true, lt_t, si_2, r2, sl_3, si_3, k.1.2.2 355 17 367 rfl, lnk_s, k.1.2.2 355 10 361 rfl, lnk_s, o61, grd_true, o67, grd_true, lt_t, sl_1, si_ok (by omega), r3, nar_bI, nI_1]
theorem RK.look (hF : 300 ≤ F) {C : Lc} (h : RK sh n z ku f (locOf U f) U.1.2.2 0 (S, C)) (P : RcS z (locOf U f).length R) (hu : ∀ z', FrL2 z z' → UnL F sh n z' ku U ∧ UnI F sh n z' ku U f) (hm : MdO U) (hf : f < faOf U) (hl : ∀ k, k < (locOf U f).length → LsO U.1.2.2 ((locOf U f).getD k [])) (hc : CdO U f) (h4 : z.1 355 4 = nI (codeOf U f).length) {tg : Nat → Bool} (h7 : ∀ t, t < 1025 → z.1 358 t = bI (tg t)) {i o : Nat} {x y : Int64} (hi : (codeOf U f)[i]? = some (o, x, y)) (hb : ∀ t, t < i → (R t).isSome = true) : ∃ z', fn_X13_look F sh n z 355 (nI i) = some (z', ()) ∧ LkR sh n z' ku f (locOf U f) U.1.2.2 (aStep U f tg i o x.toInt.toNat y.toInt.toNat S R) ∧ FrL2 z z' := by
  obtain ⟨len, cod⟩ := hc
  have il : i < (codeOf U f).length := (List.getElem?_eq_some_iff.mp hi).1
  obtain ⟨io, ix, iy, it⟩ := cod i o x y hi
  have oi : ∀ k c, shF k = (c, 1025) → k < 513 → okA sh n k c (nI i) = true := fun k c ee hk => by rw [lay_a h.1 k c 1025 hk ee]; exact okI_nI (by omega) (by omega)
  have ci : (nI i).toNatClampNeg = i := nI_clamp (by omega)
  have a5 := h.2.1.2.2.2.1
  have b64 := h.2.2.1.2.1
  unfold fn_X13_look
  rw [h.o13, grd_true, h.1.2.2 355 6 357 rfl, lnk_s, oi 357 103 rfl (by omega), grd_true, ci, (P i (by omega)).1]
  obtain ⟨z1, q1, q2, q3, q5⟩ := h.ndw (F := F) (R i).isSome (v := 10) (by omega) (by omega)
  have q1' : fn_X13_need F sh n z 355 (bI (R i).isSome) 10 = some (z1, ()) := q1
  have e58 : z1.1 358 i = bI (tg i) := by rw [(q5 358 (by omega)).1]; exact h7 i (by omega)
  rw [q1', cal_s, q2.1.2.2 355 7 358 rfl, lnk_s, oi 358 103 rfl (by omega), grd_true, e58, q2.2.2.1.1]
  have b34 : ∀ bb : Bool, bb = (!tg i || S.1 == 0) → ∃ z', fn_X13_look_B34 F sh n 355 (nI i) z1 (bI bb) = some (z', ()) ∧ LkR sh n z' ku f (locOf U f) U.1.2.2 (aStep U f tg i o x.toInt.toNat y.toInt.toNat S R) ∧ FrL2 z z' := fun bb eb => by
    subst eb
    obtain ⟨z2, p1, p2, p3, p5⟩ := q2.ndw (F := F) (!tg i || S.1 == 0) (v := 8) (by omega) (by omega)
    have p1' : fn_X13_need F sh n z1 355 (bI (!tg i || S.1 == 0)) 8 = some (z2, ()) := p1
    have f2 : FrL2 z z2 := q3.l2.trans p3.l2
    unfold fn_X13_look_B34 aStep
    rw [p1', cal_s]
    cases e : R i with
    | none =>
      rw [e] at p2
      have p2' : RK sh n z2 ku f (locOf U f) U.1.2.2 10 (S, C) := p2
      rw [if_neg (p2'.ee (by omega))]
      exact ⟨z2, rfl, ⟨by decide, _, p2'⟩, f2⟩
    | some Q =>
      rw [e] at p2
      have p2' : RK sh n z2 ku f (locOf U f) U.1.2.2 (wq 0 (!tg i || S.1 == 0) 8) (S, C) := p2
      show ∃ z', _ ∧ LkR sh n z' ku f (locOf U f) U.1.2.2 (nd_ (!tg i || S.1 == 0) 8 >>= _) ∧ _
      cases eb : (!tg i || S.1 == 0) with
      | false =>
        rw [eb] at p2'
        have k : RK sh n z2 ku f (locOf U f) U.1.2.2 8 (S, C) := p2'
        rw [if_neg (k.ee (by omega))]
        exact ⟨z2, rfl, ⟨by decide, _, k⟩, f2⟩
      | true =>
        rw [eb] at p2'
        have k : RK sh n z2 ku f (locOf U f) U.1.2.2 0 (S, C) := p2'
        rw [if_pos k.e0, nd_t, ok_b]
        obtain ⟨z3, s1, s2, s3, s4⟩ := look_l (F := F) (i := i) (by omega) e (locOf U f).length 0 F z2 C (by omega) (by omega) k ((P.f5 q5).f5 p5) (fun k hk => absurd hk (by omega))
        have s1' : fn_X13_look_L49 F sh n 355 (nI i) F z2 0 = lookT F sh n (nI i) z3 := s1
        have f3 : FrL2 z z3 := f2.trans s4.l2
        obtain ⟨ul, ui1, ui2⟩ := hu z3 f3
        obtain ⟨g1, g2, g3⟩ := ui2 i o x y hi
        obtain ⟨z4, t1, t2, t3⟩ := s2.operate (F := F) hF (fun z' q => (hu z' (f3.trans q.l2)).1) hm hf hl (o := o) (a := x.toInt.toNat) (b := y.toInt.toNat) (x := x.toInt32) (y := y.toInt32) (fun q => ix (Or.inl q)) iy io
        have f4 : FrL2 z z4 := f3.trans t3.l2
        rw [s1']
        unfold lookT
        rw [s2.2.1.1, lnk_s, ul.1, grd_true, s2.2.1.2.1, g1, cal_s, s2.2.1.1, lnk_s, ul.1, grd_true, s2.2.1.2.1, g2, cal_s, lt_t, s2.2.1.1, lnk_s, ul.1, grd_true, s2.2.1.2.1, g3, cal_s, t1, cal_s]
        have o59 := io.1
        have h4' : ∀ z9, FrL2 z z9 → z9.1 355 4 = nI (codeOf U f).length := fun z9 q => q.2.2.trans h4
        cases er : aOp U f o x.toInt.toNat y.toInt.toNat (S, Q) with
        | error w =>
          rw [er] at t2
          obtain ⟨w0, M, k4⟩ := t2
          obtain ⟨z5, M5, v1, v2, v3⟩ := k4.b178e (F := F) w0 (nI o) (nI i)
          refine ⟨z5, ?_, ⟨w0, M5, v2⟩, f4.trans v3⟩
          by_cases c1 : nI o ≤ 1
          · rw [if_pos c1]; exact v1
          rw [if_neg c1]
          by_cases c5 : (5 : Int32) ≤ nI o
          · rw [if_pos c5]; exact v1
          rw [if_neg c5, k4.come_e w0, cal_s]
          exact v1
        | ok L =>
          rw [er] at t2
          have k4 : RK sh n z4 ku f (locOf U f) U.1.2.2 0 L := t2
          have P4 := s3.lk t3
          rw [ok_b]
          by_cases c1 : o ≤ 1
          · rw [if_pos ((nIle (x := 1) 1 rfl (by omega) (by omega)).mpr c1), if_neg (show ¬ (2 ≤ o ∧ o < 5) by omega), ok_b]
            obtain ⟨z5, v1, v2, v3⟩ := k4.b178 (F := F) hF P4 (fun z' q => (hu z' (f4.trans q)).1) hm (h4' z4 f4) len il (o := o) (by omega)
            exact ⟨z5, v1, v2, f4.trans v3⟩
          rw [if_neg (fun q => c1 ((nIle (x := 1) 1 rfl (by omega) (by omega)).mp q))]
          by_cases c5 : 5 ≤ o
          · rw [if_pos ((nIge (x := 5) 5 rfl (by omega) (by omega)).mpr c5), if_neg (show ¬ (2 ≤ o ∧ o < 5) by omega), ok_b]
            obtain ⟨z5, v1, v2, v3⟩ := k4.b178 (F := F) hF P4 (fun z' q => (hu z' (f4.trans q)).1) hm (h4' z4 f4) len il (o := o) (by omega)
            exact ⟨z5, v1, v2, f4.trans v3⟩
          have tl := it (by omega) (by omega)
          rw [if_neg (fun q => c5 ((nIge (x := 5) 5 rfl (by omega) (by omega)).mp q)), if_pos (show 2 ≤ o ∧ o < 5 by omega), ix (Or.inr (by omega))]
          obtain ⟨z5, u1, u2, u3⟩ := RK.come (F := F) hF k4 P4 (fun z' q => (hu z' (f4.trans q)).1) hm (i := i) (t := x.toInt.toNat) (by omega) (by omega) (fun q => by
            by_cases d : x.toInt.toNat = i
            · rw [d, e]; rfl
            · exact hb _ (by omega))
          have f5 := f4.trans u3
          rw [u1, cal_s]
          cases ec : aCome U (locOf U f) i x.toInt.toNat L.2 R with
          | error w =>
            rw [ec] at u2
            obtain ⟨w0, M, k5⟩ := u2
            obtain ⟨z6, M6, v1, v2, v3⟩ := k5.b178e (F := F) w0 (nI o) (nI i)
            exact ⟨z6, v1, ⟨w0, M6, v2⟩, f5.trans v3⟩
          | ok R5 =>
            rw [ec] at u2
            obtain ⟨k5, P5⟩ := u2
            obtain ⟨z6, v1, v2, v3⟩ := k5.b178 (F := F) hF P5 (fun z' q => (hu z' (f5.trans q)).1) hm (h4' z5 f5) len il (o := o) (by omega)
            exact ⟨z6, v1, v2, f5.trans v3⟩
  cases ct : tg i with
  | false =>
    rw [if_pos (show bI false = 0 from rfl)]
    exact b34 true (by rw [ct]; rfl)
  | true =>
    rw [if_neg (show ¬ bI true = 0 from one0)]
    by_cases c : S.1 = 0
    · rw [if_pos (show nI S.1 = 0 by rw [c]; rfl)]
      exact b34 true (by rw [ct, show (S.1 == 0) = true from beq_iff_eq.mpr c]; rfl)
    · have b65 : S.1 ≤ 65 := b64
      rw [if_neg (show ¬ nI S.1 = 0 from nI_ne0 (by omega) (by omega))]
      exact b34 false (by rw [ct, show (S.1 == 0) = false from beq_eq_false_iff_ne.mpr c]; rfl)
end
