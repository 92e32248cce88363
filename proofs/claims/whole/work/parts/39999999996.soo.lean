/-! THE REFERENCE'S LOOKER: the first instruction, whose locals are not loaded yet -/
section
variable {F n : Nat} {sh : Nat → Nat × Nat} {z z' : St} {ku f w ns : Nat} {ls : List Ty} {L M : Lks} {U : Md} {R : Nat → Option Lc} {S : Nat × (Nat → SS)}
def RKp (sh : Nat → Nat × Nat) (n : Nat) (z : St) (ku f : Nat) (ls : List Ty) (ns : Nat) (S : Nat × (Nat → SS)) (Q : Lc) (p : Nat) : Prop := Lay sh n z ∧ (z.2.2 355 0 = some ku ∧ z.1 355 1 = nI f ∧ z.1 355 2 = nI ls.length ∧ ls.length ≤ 40 ∧ ∀ k, k < ls.length → z.2.1 356 k = tL (ls.getD k []) ∧ TBr ns (ls.getD k [])) ∧ (z.1 355 14 = nI S.1 ∧ S.1 ≤ 65 ∧ (0 = 0 → S.1 ≤ 64) ∧ ∀ k, k < S.1 → z.2.1 362 k = tL (S.2 k).1 ∧ z.2.1 363 k = (S.2 k).2.1 ∧ z.1 364 k = bI (S.2 k).2.2 ∧ TBr ns (S.2 k).1) ∧ (∀ k, k < p → z.1 365 k = bI (Q.1 k) ∧ z.2.1 366 k = Q.2.1 k ∧ z.1 367 k = bI (Q.2.2 k)) ∧ z.1 355 18 = nI 0 ∧ 0 < 16
theorem RKp.set {Q : Lc} {p : Nat} (h : RKp sh n z ku f ls ns S Q p) : RKp sh n (si (sl (si z 365 p (bI (Q.1 p))) 366 p (Q.2.1 p)) 367 p (bI (Q.2.2 p))) ku f ls ns S Q (p + 1) ∧ FrLk z (si (sl (si z 365 p (bI (Q.1 p))) 366 p (Q.2.1 p)) 367 p (bI (Q.2.2 p))) := by
  obtain ⟨a1, ⟨a2, a3, a4, a5, a6⟩, ⟨b1, b2, b3, b4⟩, c1, d1, d2⟩ := h
  refine ⟨⟨a1.of rfl, ⟨a2, by rw [si_ok (by omega), sl_1, si_ok (by omega)]; exact a3, by rw [si_ok (by omega), sl_1, si_ok (by omega)]; exact a4, a5, fun k hk => by rw [si_2, sl_ok (by omega), si_2]; exact a6 k hk⟩, ⟨by rw [si_ok (by omega), sl_1, si_ok (by omega)]; exact b1, b2, b3, fun k hk => by rw [si_2, sl_ok (by omega), si_2, sl_ok (by omega), si_2, si_ok (by omega), sl_1, si_ok (by omega)]; exact b4 k hk⟩, fun k hk => ?_, by rw [si_ok (by omega), sl_1, si_ok (by omega)]; exact d1, d2⟩, ((FrLk.si (.inr (by omega))).trans (FrLk.sl (.inr (by omega)))).trans (FrLk.si (.inr (by omega)))⟩
  by_cases c : k = p
  · subst c
    exact ⟨by rw [si_ok (by omega), sl_1, si_ss], by rw [si_2, sl_ss], by rw [si_ss]⟩
  · obtain ⟨e1, e2, e3⟩ := c1 k (by omega)
    exact ⟨by rw [si_ok (by omega), sl_1, si_oj c]; exact e1, by rw [si_2, sl_oj c, si_2]; exact e2, by rw [si_oj c, sl_1, si_ok (by omega)]; exact e3⟩
theorem look_p {i : Nat} (hi : i < 1025) {Q : Lc} (hQ : R i = some Q) : ∀ r p g z1, p + r = ls.length → r < g → RKp sh n z1 ku f ls ns S Q p → RcS z1 ls.length R → ∃ z', fn_X13_look_L49 F sh n 355 (nI i) g z1 (nI p) = lookT F sh n (nI i) z' ∧ RK sh n z' ku f ls ns 0 (S, Q) ∧ RcS z' ls.length R ∧ FrLk z1 z' := by
  intro r
  induction r with
  | zero =>
    intro p g z1 ep hg k P
    obtain ⟨g, rfl⟩ : ∃ q, g = q + 1 := ⟨g - 1, by omega⟩
    have a5 := k.2.1.2.2.2.1
    have ep' : p = ls.length := by omega
    subst ep'
    conv => enter [1, z', 1, 1]; unfold fn_X13_look_L49
    rw [k.2.1.2.2.1, if_pos ((nI_leI (by omega) (by omega)).mpr (by omega))]
    exact ⟨z1, rfl, k, P, FrLk.rfl'⟩
  | succ r ih =>
    intro p g z1 ep hg k P
    obtain ⟨g, rfl⟩ : ∃ q, g = q + 1 := ⟨g - 1, by omega⟩
    have a5 := k.2.1.2.2.2.1
    have hp : p < ls.length := by omega
    have ok : ∀ k' c, shF k' = (c, 40) → k' < 513 → okA sh n k' c (nI p) = true := fun k' c ee hk => by rw [lay_a k.1 k' c 40 hk ee]; exact okI_nI (by omega) (by omega)
    have cp : (nI p).toNatClampNeg = p := nI_clamp (by omega)
    have okj : ∀ k' c, shF k' = (c, 41000) → k' < 513 → okA sh n k' c (nI (40 * i + p)) = true := fun k' c ee hk => by rw [lay_a k.1 k' c 41000 hk ee]; exact okI_nI (by omega) (by omega)
    have cj : (nI (40 * i + p)).toNatClampNeg = 40 * i + p := nI_clamp (by omega)
    obtain ⟨k2, f2⟩ := k.set
    obtain ⟨r1, r2, r3⟩ := (P i hi).2 Q hQ p hp
    obtain ⟨z2, s1, s2, s3, s4⟩ := ih (p + 1) g _ (by omega) (by omega) k2 (P.lk f2)
    refine ⟨z2, ?_, s2, s3, f2.trans s4⟩
    rw [← s1]
    have o59 := okj 359 103 rfl (by omega)
    have o60 := okj 360 102 rfl (by omega)
    have o61 := okj 361 103 rfl (by omega)
    have o65 := ok 365 103 rfl (by omega)
    have o66 := ok 366 102 rfl (by omega)
    have o67 := ok 367 103 rfl (by omega)
    conv => lhs; unfold fn_X13_look_L49
    rw [k.2.1.2.2.1, if_neg (fun q => by have := (nI_leI (by omega) (by omega)).mp q; omega), v40 hi (by omega), k.1.2.2 355 15 365 rfl, lnk_s, k.1.2.2 355 8 359 rfl, lnk_s, o59, grd_true, o65, grd_true, lt_t, cj, cp, r1, nar_bI, si_3, k.1.2.2 355 16 366 rfl, lnk_s, k.1.2.2 355 9 360 rfl, lnk_s, o60, grd_true, o66, grd_true, lt_t, si_2, r2, sl_3, si_3, k.1.2.2 355 17 367 rfl, lnk_s, k.1.2.2 355 10 361 rfl, lnk_s, o61, grd_true, o67, grd_true, lt_t, sl_1, si_ok (by omega), r3, nar_bI, nI_1]
theorem look_0 (hF : 300 ≤ F) {Q : Lc} (h : RKp sh n z ku f (locOf U f) U.1.2.2 S Q 0) (e : R 0 = some Q) (S0 : S.1 = 0) (P : RcS z (locOf U f).length R) (hu : ∀ z', FrL2 z z' → UnL F sh n z' ku U ∧ UnI F sh n z' ku U f) (hm : MdO U) (hf : f < faOf U) (hl : ∀ k, k < (locOf U f).length → LsO U.1.2.2 ((locOf U f).getD k [])) (hc : CdO U f) (h4 : z.1 355 4 = nI (codeOf U f).length) {tg : Nat → Bool} (h7 : ∀ t, t < 1025 → z.1 358 t = bI (tg t)) {i o : Nat} {x y : Int64} (i0 : i = 0) (hi : (codeOf U f)[i]? = some (o, x, y)) : ∃ z', fn_X13_look F sh n z 355 (nI i) = some (z', ()) ∧ LkR sh n z' ku f (locOf U f) U.1.2.2 (aStep U f tg i o x.toInt.toNat y.toInt.toNat S R) ∧ FrL2 z z' := by
  obtain ⟨len, cod⟩ := hc
  have il : i < (codeOf U f).length := (List.getElem?_eq_some_iff.mp hi).1
  obtain ⟨io, ix, iy, it⟩ := cod i o x y hi
  have e : R i = some Q := by rw [i0]; exact e
  have hb : ∀ t, t < i → (R t).isSome = true := fun t q => by omega
  have oi : ∀ k c, shF k = (c, 1025) → k < 513 → okA sh n k c (nI i) = true := fun k c ee hk => by rw [lay_a h.1 k c 1025 hk ee]; exact okI_nI (by omega) (by omega)
  have ci : (nI i).toNatClampNeg = i := nI_clamp (by omega)
  have a5 := h.2.1.2.2.2.1
  have o13 : okO sh n 355 13 = true := lay_o h.1 355 13 0 (by decide) rfl
  have nt : ∀ v, fn_X13_need F sh n z 355 1 v = some (z, ()) := fun v => by unfold fn_X13_need; rw [if_neg (show ¬ (1 : Int32) = 0 by decide)]
  have e7 : z.1 357 i = 1 := by rw [(P i (by omega)).1, e]; rfl
  have et : (!tg i || S.1 == 0) = true := by rw [show (S.1 == 0) = true from beq_iff_eq.mpr S0, Bool.or_true]
  have b34 : fn_X13_look_B34 F sh n 355 (nI i) z 1 = fn_X13_look_L49 F sh n 355 (nI i) F z 0 := by
    unfold fn_X13_look_B34
    rw [nt, cal_s, if_pos (show z.1 355 18 = 0 from h.2.2.2.2.1)]
  have lk : fn_X13_look F sh n z 355 (nI i) = fn_X13_look_L49 F sh n 355 (nI i) F z 0 := by
    unfold fn_X13_look
    rw [o13, grd_true, h.1.2.2 355 6 357 rfl, lnk_s, oi 357 103 rfl (by omega), grd_true, ci, e7, nt, cal_s, h.1.2.2 355 7 358 rfl, lnk_s, oi 358 103 rfl (by omega), grd_true, h7 i (by omega), h.2.2.1.1, if_pos (show nI S.1 = 0 by rw [S0]; rfl)]
    unfold fn_X13_look_B29
    rw [b34]
    cases tg i with
    | false => rw [if_pos (show bI false = 0 from rfl)]
    | true => rw [if_neg (show ¬ bI true = 0 from one0)]
  have f2 : FrL2 z z := FrL2.rfl'
  obtain ⟨z3, s1, s2, s3, s4⟩ := look_p (F := F) (i := i) (by omega) e (locOf U f).length 0 F z (by omega) (by omega) h P
  have s1' : fn_X13_look_L49 F sh n 355 (nI i) F z 0 = lookT F sh n (nI i) z3 := s1
  have f3 : FrL2 z z3 := f2.trans s4.l2
  rw [lk, s1']
  unfold aStep
  rw [e]
  show ∃ z', _ ∧ LkR sh n z' ku f (locOf U f) U.1.2.2 (nd_ (!tg i || S.1 == 0) 8 >>= _) ∧ _
  rw [et, nd_t, ok_b]
  obtain ⟨ul, ui1, ui2⟩ := hu z3 f3
  obtain ⟨g1, g2, g3⟩ := ui2 i o x y hi
  obtain ⟨z4, t1, t2, t3⟩ := s2.operate (F := F) hF (fun z' q => (hu z' (f3.trans q.l2)).1) hm hf hl (o := o) (a := x.toInt.toNat) (b := y.toInt.toNat) (x := x.toInt32) (y := y.toInt32) (fun q => ix (Or.inl q)) iy io
  have f4 : FrL2 z z4 := f3.trans t3.l2
  unfold lookT
  rw [s2.2.1.1, lnk_s, ul.1, grd_true, s2.2.1.2.1, g1, cal_s, s2.2.1.1, lnk_s, ul.1, grd_true, s2.2.1.2.1, g2, cal_s, lt_t, s2.2.1.1, lnk_s, ul.1, grd_true, s2.2.1.2.1, g3, cal_s, t1, cal_s]
  have o59 := io.1
  have h4' : ∀ z9, FrL2 z z9 → z9.1 355 4 = nI (codeOf U f).length := fun z9 q => q.2.2.trans h4
  cases er : aOp U f o x.toInt.toNat y.toInt.toNat (S, Q) with
  | error w =>
    rw [er] at t2
    obtain ⟨w0, M, k4⟩ := t2
    obtain ⟨z5, M5, v1, v2, v3⟩ := k4.b178e (F := F) w0 (nI o) (nI i)
    refine ⟨z5, ?_, ⟨w0, M5, v2⟩, f4.trans v3⟩
    by_cases c1 : nI o ≤ 1
    · rw [if_pos c1]; exact v1
    rw [if_neg c1]
    by_cases c5 : (5 : Int32) ≤ nI o
    · rw [if_pos c5]; exact v1
    rw [if_neg c5, k4.come_e w0, cal_s]
    exact v1
  | ok L =>
    rw [er] at t2
    have k4 : RK sh n z4 ku f (locOf U f) U.1.2.2 0 L := t2
    have P4 := s3.lk t3
    rw [ok_b]
    by_cases c1 : o ≤ 1
    · rw [if_pos ((nIle (x := 1) 1 rfl (by omega) (by omega)).mpr c1), if_neg (show ¬ (2 ≤ o ∧ o < 5) by omega), ok_b]
      obtain ⟨z5, v1, v2, v3⟩ := k4.b178 (F := F) hF P4 (fun z' q => (hu z' (f4.trans q)).1) hm (h4' z4 f4) len il (o := o) (by omega)
      exact ⟨z5, v1, v2, f4.trans v3⟩
    rw [if_neg (fun q => c1 ((nIle (x := 1) 1 rfl (by omega) (by omega)).mp q))]
    by_cases c5 : 5 ≤ o
    · rw [if_pos ((nIge (x := 5) 5 rfl (by omega) (by omega)).mpr c5), if_neg (show ¬ (2 ≤ o ∧ o < 5) by omega), ok_b]
      obtain ⟨z5, v1, v2, v3⟩ := k4.b178 (F := F) hF P4 (fun z' q => (hu z' (f4.trans q)).1) hm (h4' z4 f4) len il (o := o) (by omega)
      exact ⟨z5, v1, v2, f4.trans v3⟩
    have tl := it (by omega) (by omega)
    rw [if_neg (fun q => c5 ((nIge (x := 5) 5 rfl (by omega) (by omega)).mp q)), if_pos (show 2 ≤ o ∧ o < 5 by omega), ix (Or.inr (by omega))]
    obtain ⟨z5, u1, u2, u3⟩ := RK.come (F := F) hF k4 P4 (fun z' q => (hu z' (f4.trans q)).1) hm (i := i) (t := x.toInt.toNat) (by omega) (by omega) (fun q => by
      by_cases d : x.toInt.toNat = i
      · rw [d, e]; rfl
      · exact hb _ (by omega))
    have f5 := f4.trans u3
    rw [u1, cal_s]
    cases ec : aCome U (locOf U f) i x.toInt.toNat L.2 R with
    | error w =>
      rw [ec] at u2
      obtain ⟨w0, M, k5⟩ := u2
      obtain ⟨z6, M6, v1, v2, v3⟩ := k5.b178e (F := F) w0 (nI o) (nI i)
      exact ⟨z6, v1, ⟨w0, M6, v2⟩, f5.trans v3⟩
    | ok R5 =>
      rw [ec] at u2
      obtain ⟨k5, P5⟩ := u2
      obtain ⟨z6, v1, v2, v3⟩ := k5.b178 (F := F) hF P5 (fun z' q => (hu z' (f5.trans q)).1) hm (h4' z5 f5) len il (o := o) (by omega)
      exact ⟨z6, v1, v2, f5.trans v3⟩
end
