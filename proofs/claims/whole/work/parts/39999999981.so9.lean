/-! THE REFERENCE'S LOOKER: references, structures -/
section
variable {F n : Nat} {sh : Nat → Nat × Nat} {z z' : St} {ku f w ns : Nat} {ls : List Ty} {L : Lks} {U : Md}
theorem tLs {a : Nat} (ha : a < 256) : (1536 : Int64) + (nI a).toInt64 = tL [6, a] := by
  apply N_inj
  have e : tL [6, a] = lN (1536 + a) := by simp [tL, tV]
  rw [e, N_add, nI_l (by omega), N_lN (by omega), N_lN (by omega), show N 1536 = 1536 from rfl]
  omega
theorem TBrs {a : Nat} (ha : a < ns) (h2 : a < 256) : TBr ns [6, a] := ⟨⟨by simp, ⟨by show 1 ≤ 6; omega, by show 6 ≤ 9; omega⟩, fun b hb => by simp at hb; omega⟩, fun q => by simp [isR, hdT] at q, fun s hs => by
  simp only [endS] at hs
  rw [if_pos trivial] at hs
  have : a = s := by simpa using hs
  omega⟩
theorem stR_t {a : Nat} (ha : a < 256) : fn_X13_structureType F sh n z (nI a) = some (z, tL [6, a]) := by
  unfold fn_X13_structureType
  rw [tLs ha]
theorem TBr.tl {t : Ty} (h : TBr ns t) (hr : isR t = true) : TBr ns t.tail ∧ isR t.tail = false ∧ t.tail.length ≤ 6 := by
  obtain ⟨h1, h2⟩ := h.2.1 hr
  obtain ⟨b, p, e, b1, b2⟩ := h.1.ne
  subst e
  have l := h.1.1
  rw [List.length_cons] at l
  have l2 := h1.len
  refine ⟨⟨h1, fun q => by rw [h2] at q; exact absurd q (by simp), fun s hs => h.2.2 s ?_⟩, h2, by show p.length ≤ 6; omega⟩
  have hs' : endS p = some s := hs
  cases p with
  | nil => simp [endS] at hs'
  | cons c p =>
    cases p with
    | nil => simp [endS] at hs'
    | cons d p => exact hs'
theorem nd2 {c d : Bool} {q q' : SS × Lks} (h : (nd_ c 3 >>= fun _ => nd_ d 7 >>= fun _ => (.ok q' : Px (SS × Lks))) = .ok q) : c = true ∧ q' = q := by
  cases c with
  | false => cases h
  | true =>
    cases d with
    | false => cases h
    | true => cases h; exact ⟨rfl, rfl⟩
theorem lR_ok {to : Option Ty} {wr : Bool} {M : Lks} {q : SS × Lks} (h : lTakeR to wr M = .ok q) : isR q.1.1 = true ∧ (∀ t, to = some t → q.1.1.tail = t) := by
  unfold lTakeR at h
  cases r : lTake M with
  | error w => rw [r] at h; cases h
  | ok q' =>
    rw [r, ok_b] at h
    obtain ⟨h1, h2⟩ := nd2 h
    subst h2
    rw [Bool.and_eq_true] at h1
    refine ⟨h1.1, fun t et => ?_⟩
    subst et
    exact beq_iff_eq.mp h1.2
theorem ptd_t (hF : 300 ≤ F) {t : Ty} (h : TB t) : fn_X13_pointed F sh n z (tL t) = some (z, tL t.tail) := by
  obtain ⟨b, p, e, _⟩ := h.ne
  subst e
  exact pointedR_t hF h
theorem RK.onReference (hF : 300 ≤ F) (h : RK sh n z ku f ls U.1.2.2 0 L) (hu : ∀ z', FrLk z z' → UnL F sh n z' ku U) (hm : MdO U) {o a b : Nat} (o1 : 16 ≤ o) (o2 : o < 21) (hab : o = 16 ∨ o = 17 → a < U.1.2.1 ∧ b < (fdsOf U a).length) : OpR sh n z ku f ls U.1.2.2 (fn_X13_onReference F sh n z 355 (nI o) (nI a) (nI b)) (aRef U ls o a b L) := by
  unfold fn_X13_onReference aRef
  by_cases c67 : o = 16 ∨ o = 17
  · obtain ⟨ha, hb⟩ := hab c67
    have hsz := hm.2.1
    have a64 : a < 256 := by omega
    have b12 : OpR sh n z ku f ls U.1.2.2 (fn_X13_onReference_B12 F sh n (nI a) (nI o) 355 (nI b) z) (lTakeR (some [6, a]) (o == 17) L >>= fun q => lPush ((if o = 17 then 9 else 8) :: (fdsOf U a).getD b [], q.1.2.1, true) q.2) := by
      unfold fn_X13_onReference_B12
      rw [stR_t a64, cal_s]
      have b28 : OpR sh n z ku f ls U.1.2.2 (fn_X13_onReference_B28 F sh n 355 (tL [6, a]) (nI o) (nI a) (nI b) z (bI (o == 17))) (lTakeR (some [6, a]) (o == 17) L >>= fun q => lPush ((if o = 17 then 9 else 8) :: (fdsOf U a).getD b [], q.1.2.1, true) q.2) := by
        obtain ⟨z1, q1, q2, q3⟩ := h.takeRP (F := F) hF (some [6, a]) (fun t e => by cases e; exact (TBrs (ns := U.1.2.2) (by omega) a64).1) (o == 17)
        have q1' : fn_X13_takeReference F sh n z 355 (tL [6, a]) (bI (o == 17)) = some (z1, ()) := q1
        unfold fn_X13_onReference_B28
        rw [h.o13, grd_true, q1', cal_s]
        cases r : lTakeR (some [6, a]) (o == 17) L with
        | error w =>
          rw [r] at q2
          obtain ⟨w0, M, q2⟩ := q2
          rw [if_neg (q2.ee w0)]
          exact ⟨z1, rfl, ⟨w0, M, q2⟩, q3⟩
        | ok q =>
          rw [r] at q2
          obtain ⟨k1, k2, k3⟩ := q2
          have un := hu z1 q3
          have pl : PlO U.1.2.2 ((fdsOf U a).getD b []) := (hm.2.2.1 a ha).2 _ (by
            rw [List.getD_eq_getElem?_getD, List.getElem?_eq_getElem hb]; exact List.getElem_mem hb)
          have b52 : ∀ r, r = 8 ∨ r = 9 → OpR sh n z ku f ls U.1.2.2 (fn_X13_onReference_B52 F sh n 355 (nI a) (nI b) z1 (nI r)) (lPush (r :: (fdsOf U a).getD b [], q.1.2.1, true) q.2) := fun r hr => by
            obtain ⟨z2, p1, p2, p3, p4⟩ := k1.pushP (F := F) hF (pl.1.bor pl.2.1 pl.2.2 hr) q.1.2.1 true
            have p1' : fn_X13_push F sh n z1 355 (tL (r :: (fdsOf U a).getD b [])) q.1.2.1 1 = some (z2, ()) := p1
            unfold fn_X13_onReference_B52
            rw [k1.2.1.1, lnk_s, un.1, grd_true, (un.2.2.1 a ha).2 b hb, cal_s, beforeR_t hF (by omega) pl.1.1 pl.2.2, cal_s, k2.2.1, p1', cal_s]
            refine ⟨z2, rfl, ?_, q3.trans p3⟩
            have x1 : rO (r :: (fdsOf U a).getD b []) q.1.2.1 = q.1.2.1 := by unfold rO; rw [isR_c hr]; rfl
            have x2 : rI (r :: (fdsOf U a).getD b []) true = true := by unfold rI; rw [isR_c hr]; rfl
            rw [x1, x2] at p2
            exact p2
          rw [if_pos k1.e0, ok_b]
          rcases c67 with e | e
          · subst e; exact b52 8 (.inl rfl)
          · subst e; exact b52 9 (.inr rfl)
      rcases c67 with e | e
      · subst e; exact b28
      · subst e; exact b28
    rw [if_pos c67]
    rcases c67 with e | e
    · subst e; exact b12
    · subst e; exact b12
  · rw [if_neg c67, if_neg (fun q => c67 (.inl ((nIe (x := 16) 16 rfl (by omega) (by omega)).mp q))), if_neg (fun q => c67 (.inr ((nIe (x := 17) 17 rfl (by omega) (by omega)).mp q)))]
    have lift : ∀ {z2 : St} {X : Option (St × Unit)} {r : Px Lks}, FrLk z z2 → OpR sh n z2 ku f ls U.1.2.2 X r → OpR sh n z ku f ls U.1.2.2 X r := fun fz ⟨z3, x1, x2, x3⟩ => ⟨z3, x1, x2, fz.trans x3⟩
    by_cases c18 : o = 18
    · rw [if_pos ((nIe (x := 18) 18 rfl (by omega) (by omega)).mpr c18), if_pos c18]
      obtain ⟨z1, q1, q2, q3⟩ := h.takeRP (F := F) hF none (fun t e => by cases e) false
      have q1' : fn_X13_takeReference F sh n z 355 0 0 = some (z1, ()) := q1
      rw [h.o13, grd_true, q1', cal_s]
      cases r : lTakeR none false L with
      | error w =>
        rw [r] at q2
        obtain ⟨w0, M, q2⟩ := q2
        unfold fn_X13_onReference_B111
        rw [if_neg (q2.ee w0), if_neg (q2.ee w0)]
        exact ⟨z1, rfl, ⟨w0, M, q2⟩, q3⟩
      | ok q =>
        rw [r] at q2
        obtain ⟨k1, k2, k3⟩ := q2
        obtain ⟨i1, _⟩ := lR_ok r
        obtain ⟨t1, t2, t3⟩ := k3.tl i1
        rw [if_pos k1.e0, k2.1, ptd_t hF k3.1, cal_s, (k1.has hF (hu z1 q3) hm t1).1, cal_s, ok_b]
        obtain ⟨z2, s1, s2, s3, s4, s5⟩ := k1.nd (F := F) (hasC U q.1.1.tail) (v := 4) (by omega) (by omega)
        have s1' : fn_X13_need F sh n z1 355 (bI (hasC U q.1.1.tail)) 4 = some (z2, ()) := s1
        rw [s1', cal_s]
        unfold fn_X13_onReference_B111
        cases e4 : hasC U q.1.1.tail with
        | false =>
          have k := s5 e4
          rw [if_neg (k.ee (by omega))]
          exact ⟨z2, rfl, ⟨by decide, _, k⟩, q3.trans s2⟩
        | true =>
          have k := s4 e4
          obtain ⟨z3, p1, p2, p3⟩ := k.giveP (F := F) hF t1
          have e19 : z2.2.1 355 19 = tL q.1.1 := by rw [s3.1]; exact k2.1
          rw [if_pos k.e0, e19, ptd_t hF k3.1, cal_s, p1, cal_s, nd_t, ok_b]
          exact ⟨z3, rfl, p2, (q3.trans s2).trans p3⟩
    · rw [if_neg (fun q => c18 ((nIe (x := 18) 18 rfl (by omega) (by omega)).mp q)), if_neg c18]
      obtain ⟨z1, q1, q2, q3⟩ := h.takeRP (F := F) hF none (fun t e => by cases e) true
      have q1' : fn_X13_takeReference F sh n z 355 0 1 = some (z1, ()) := q1
      by_cases c19 : o = 19
      · rw [if_pos ((nIe (x := 19) 19 rfl (by omega) (by omega)).mpr c19), if_pos c19, h.o13, grd_true, q1', cal_s, lt_t]
        cases r : lTakeR none true L with
        | error w =>
          rw [r] at q2
          obtain ⟨w0, M, q2⟩ := q2
          unfold fn_X13_onReference_B168 fn_X13_onReference_B189
          rw [if_neg (q2.ee w0), if_neg (q2.ee w0), if_neg (q2.ee w0)]
          exact ⟨z1, rfl, ⟨w0, M, q2⟩, q3⟩
        | ok q =>
          rw [r] at q2
          obtain ⟨k1, k2, k3⟩ := q2
          obtain ⟨i1, _⟩ := lR_ok r
          obtain ⟨t1, t2, t3⟩ := k3.tl i1
          rw [if_pos k1.e0, k2.1, ptd_t hF k3.1, cal_s, ok_b, k2.2.1]
          obtain ⟨z2, s1, s2, s3⟩ := k1.takeTP (F := F) t1.1
          rw [s1, cal_s, lTakeT_q]
          cases r2 : lTakeQ q.1.1.tail q.2 with
          | error w =>
            rw [r2] at s2
            obtain ⟨w0, M, s2⟩ := s2
            unfold fn_X13_onReference_B168 fn_X13_onReference_B189
            rw [if_neg (s2.ee w0), if_neg (s2.ee w0)]
            exact ⟨z2, rfl, ⟨w0, M, s2⟩, q3.trans s3⟩
          | ok q' =>
            rw [r2] at s2
            obtain ⟨l1, l2, l3⟩ := s2
            have eq' := lQ_ok r2
            unfold fn_X13_onReference_B168
            rw [if_pos l1.e0, l2.1, (l1.has hF (hu z2 (q3.trans s3)) hm l3).2.1, cal_s, ok_b, ok_b, eq']
            obtain ⟨z3, u1, u2, u3, u4, u5⟩ := l1.nd (F := F) (hasD U q.1.1.tail) (v := 4) (by omega) (by omega)
            have u1' : fn_X13_need F sh n z2 355 (bI (hasD U q.1.1.tail)) 4 = some (z3, ()) := u1
            rw [u1', cal_s]
            unfold fn_X13_onReference_B189
            cases e4 : hasD U q.1.1.tail with
            | false =>
              have k := u5 e4
              rw [if_neg (k.ee (by omega))]
              exact ⟨z3, rfl, ⟨by decide, _, k⟩, (q3.trans s3).trans u2⟩
            | true =>
              have k := u4 e4
              rw [if_pos k.e0, k.sole hF, cal_s, nd_t, ok_b]
              obtain ⟨z4, v1, v2, v3, v4, v5⟩ := k.nd (F := F) (lSole ls q'.2 q.1.2.1) (v := 6) (by omega) (by omega)
              have v1' : fn_X13_need F sh n z3 355 (bI (lSole ls q'.2 q.1.2.1)) 6 = some (z4, ()) := v1
              rw [v1', cal_s]
              refine ⟨z4, rfl, ?_, ((q3.trans s3).trans u2).trans v2⟩
              cases e6 : lSole ls q'.2 q.1.2.1 with
              | false => exact ⟨by decide, _, v5 e6⟩
              | true => exact v4 e6
      · rw [if_neg (fun q => c19 ((nIe (x := 19) 19 rfl (by omega) (by omega)).mp q)), if_neg c19, h.o13, grd_true, q1', cal_s]
        cases r : lTakeR none true L with
        | error w =>
          rw [r] at q2
          obtain ⟨w0, M, q2⟩ := q2
          rw [if_neg (q2.ee w0)]
          exact ⟨z1, rfl, ⟨w0, M, q2⟩, q3⟩
        | ok q =>
          rw [r] at q2
          obtain ⟨k1, k2, k3⟩ := q2
          obtain ⟨i1, _⟩ := lR_ok r
          obtain ⟨t1, t2, t3⟩ := k3.tl i1
          obtain ⟨z2, p1, p2, p3, p4⟩ := k1.pushP (F := F) hF (t1.bor t2 t3 (r := 8) (.inl rfl)) q.1.2.1 q.1.2.2
          have bb := beforeR_t (F := F) (n := n) (sh := sh) (z := z1) (b := 8) hF (by omega) t1.1 t3
          have bb' : fn_X13_before F sh n z1 8 (tL q.1.1.tail) = some (z1, tL (8 :: q.1.1.tail)) := bb
          rw [if_pos k1.e0, k2.1, ptd_t hF k3.1, cal_s, bb', cal_s, k2.2.1, k2.2.2, p1, cal_s, ok_b]
          refine ⟨z2, rfl, ?_, q3.trans p3⟩
          have x1 : rO (8 :: q.1.1.tail) q.1.2.1 = q.1.2.1 := by unfold rO; rw [isR_c (.inl rfl)]; rfl
          have x2 : rI (8 :: q.1.1.tail) q.1.2.2 = q.1.2.2 := by unfold rI; rw [isR_c (.inl rfl)]; rfl
          rw [x1, x2] at p2
          exact p2
end
