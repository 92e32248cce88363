/-! THE CLASS'S LOOKER: calls as a whole -/
theorem obRES (k : Nat) : ob (-281474976710656) k = decide (48 ≤ k ∧ k < 64) := by
  by_cases c : k < 64
  · have : ∀ b, b < 64 → ob (-281474976710656) b = decide (48 ≤ b ∧ b < 64) := by decide
    exact this k c
  · rw [ob_64 (by omega), decide_eq_false (by omega)]
theorem mtRES (o : Int64) : mtB o (-281474976710656) = (List.range 16).any (fun b => ob o (48 + b)) := by
  cases e : (List.range 16).any (fun b => ob o (48 + b)) with
  | true =>
    obtain ⟨b, b1, b2⟩ := List.any_eq_true.mp e
    have b3 := List.mem_range.mp b1
    cases m : mtB o (-281474976710656) with
    | true => rfl
    | false =>
      have := ob_zero.mp (mtB_0.mpr m) (48 + b)
      rw [ob_and, obRES, b2, decide_eq_true (by omega)] at this
      exact absurd this (by simp)
  | false =>
    refine (mtB_0.mp (ob_zero.mpr fun k => ?_))
    rw [ob_and, obRES]
    by_cases c : 48 ≤ k ∧ k < 64
    · have : ¬ ob o k = true := fun q => by
        have t : (List.range 16).any (fun b => ob o (48 + b)) = true := List.any_eq_true.mpr ⟨k - 48, List.mem_range.mpr (by omega), by rw [show 48 + (k - 48) = k by omega]; exact q⟩
        rw [e] at t; cases t
      rw [Bool.not_eq_true] at this
      rw [this]; rfl
    · rw [decide_eq_false c, Bool.and_false]
theorem mtRES63 {o : Int64} (h : ob o 63 = false) : mtB o (-281474976710656) = (List.range' 48 15).any (fun b => ob o b) := by
  rw [mtRES, show List.range 16 = List.range 15 ++ [15] from rfl, List.any_append, List.range'_eq_map_range, List.any_map]
  show ((List.range 15).any (fun b => ob o (48 + b)) || (ob o 63 || false)) = (List.range 15).any (fun b => ob o (48 + b))
  rw [h]
  simp
theorem lvRES {ls : List Ty} {M : Lks} (h : N63 M) : lvB ls M (-281474976710656) false = (List.range' 48 15).any (fun b => lPt ls M b false) := by
  rw [Bool.eq_iff_iff, List.any_eq_true]
  unfold lvB lPt
  constructor
  · intro q
    rw [Bool.or_eq_true, List.any_eq_true, List.any_eq_true] at q
    rcases q with ⟨k, k1, k2⟩ | ⟨k, k1, k2⟩
    · have k3 := List.mem_range.mp k1
      rw [mtRES63 (h.1 k k3), Bool.and_eq_true, List.any_eq_true] at k2
      obtain ⟨⟨b, b1, b2⟩, k4⟩ := k2
      exact ⟨b, b1, by rw [Bool.or_eq_true]; left; exact List.any_eq_true.mpr ⟨k, k1, by rw [b2, k4]; rfl⟩⟩
    · rw [Bool.and_eq_true, Bool.and_eq_true] at k2
      obtain ⟨⟨k4, k5⟩, k6⟩ := k2
      rw [mtRES63 (h.2 k k4), List.any_eq_true] at k5
      obtain ⟨b, b1, b2⟩ := k5
      exact ⟨b, b1, by rw [Bool.or_eq_true]; right; exact List.any_eq_true.mpr ⟨k, k1, by rw [k4, b2, k6]; rfl⟩⟩
  · rintro ⟨b, b1, q⟩
    rw [Bool.or_eq_true, List.any_eq_true, List.any_eq_true] at q ⊢
    rcases q with ⟨k, k1, k2⟩ | ⟨k, k1, k2⟩
    · have k3 := List.mem_range.mp k1
      rw [Bool.and_eq_true] at k2
      exact .inl ⟨k, k1, by rw [mtRES63 (h.1 k k3), k2.2, List.any_eq_true.mpr ⟨b, b1, k2.1⟩]; rfl⟩
    · rw [Bool.and_eq_true, Bool.and_eq_true] at k2
      obtain ⟨⟨k4, k5⟩, k6⟩ := k2
      exact .inr ⟨k, k1, by rw [k4, k6, mtRES63 (h.2 k k4), List.any_eq_true.mpr ⟨b, b1, k5⟩]; rfl⟩
section
variable {F n : Nat} {sh : Nat → Nat × Nat} {z z' : St} {kp f w ns : Nat} {ls : List Ty} {L M : Lks} {U : Md}
theorem CK.enter (hF : 300 ≤ F) (h : CK sh n z kp f ls U.1.2.2 L) (h63 : N63 L) (hu : ∀ z', FrQc z z' → CnL F sh n z' kp U) (hm : MdO U) (hf : f < faOf U) {a : Nat} (ha : a < faOf U) : ∃ z', fn_X3_enter F sh n z 62 (nI a) = some (z', ()) ∧ CR sh n z' kp f ls U.1.2.2 (aCall U ls f a L) ∧ FrQc z z' := by
  have un := hu z FrQc.rfl'
  obtain ⟨⟨m0, m1, mf⟩, mt, mg⟩ := un.2.1 a ha
  obtain ⟨f8, t8, g8, tt, tg⟩ := hm.2.2.2.2 a ha
  have f8' := (hm.2.2.2.2 f hf).1
  have h0 : CR sh n z kp f ls U.1.2.2 (.ok L) := h
  unfold fn_X3_enter aCall
  rw [h.cb.o3, grd_true, h.2.1, lnk_s, un.1, grd_true, m0, cal_s, lt_t]
  obtain ⟨z1, g, s1, s2, s3, s4⟩ := e13 (F := F) hu hm ha (nI (tksOf U a).length) (tksOf U a).length F z _ (by omega) (by omega) h0 FrQc.rfl'
  rw [Nat.sub_self, List.drop_zero, ok_b] at s2
  rw [s1]
  unfold fn_X3_enter_L13
  rw [if_pos (show nI 0 - 1 < 0 by decide)]
  cases e : aTakes (tksOf U a).reverse L with
  | error w =>
    rw [e] at s2
    rw [s2.2.2.2.2.1.1, if_neg (nI_ne0 s2.1 (by have := s2.2.2.2.2.1.2; omega))]
    exact ⟨z1, rfl, s2, s3⟩
  | ok M =>
    rw [e] at s2
    have k : CK sh n z1 kp f ls U.1.2.2 M := s2
    obtain ⟨i1, i2⟩ := aTakes_ok _ _ _ e
    rw [List.length_reverse] at i1 i2
    have b64 := h.2.2.2.2.1.2.1
    have eM : M.1.1 = L.1.1 - (tksOf U a).length := by rw [i2]
    have m63 : N63 M := by
      rw [i2]
      exact ⟨fun j hj => h63.1 j (by have : j < L.1.1 - (tksOf U a).length := hj; omega), h63.2⟩
    have ar : ArC z1 M.1.1 (tksOf U a).length (fun k => L.1.2 (M.1.1 + k)) U.1.2.2 := by
      refine ⟨k.2.2.2.2.1.1, by omega, fun j hj => ?_⟩
      obtain ⟨a1, a2, a3, a4, a5⟩ := h.2.2.2.2.1.2.2 (M.1.1 + j) (by omega)
      rw [s4.1, s4.2]
      exact ⟨a1, a2, a4⟩
    have un1 := hu z1 s3
    have kr : CR sh n z1 kp f ls U.1.2.2 (.ok M) := k
    rw [k.2.2.2.1, if_pos (show nI 0 = 0 from rfl), k.2.1, lnk_s, un1.1, grd_true, (un1.2.1 a ha).1.2.2, cal_s]
    have fa : ∀ (X : St → Int32 → Option (St × Unit)), (if nI (fnOf U a).1 &&& 4 = 0 then X z1 0 else X z1 1) = X z1 (bI (resOf U a)) := fun X => by
      unfold resOf
      by_cases c : (fnOf U a).1 / 4 % 2 = 0
      · rw [if_pos ((fl4 _ f8).mpr c), c]; rfl
      · rw [if_neg (fun q => c ((fl4 _ f8).mp q)), show (fnOf U a).1 / 4 % 2 = 1 by omega]; rfl
    rw [fa (fun z9 q => fn_X3_enter_B62 F sh n 62 (nI (tksOf U a).length) (nI a) z9 q)]
    -- the module's own flag
    have e62 : ∃ z2, fn_X3_enter_B62 F sh n 62 (nI (tksOf U a).length) (nI a) z1 (bI (resOf U a)) = fn_X3_enter_B89 F sh n 62 (nI (tksOf U a).length) (bI (resOf U a)) (nI a) z2 ∧ CR sh n z2 kp f ls U.1.2.2 (nd_ (!resOf U a || resOf U f) 15 >>= fun _ => .ok M) ∧ FrQc z1 z2 ∧ Fr4 z1 z2 := by
      unfold fn_X3_enter_B62
      cases c : resOf U a with
      | false => rw [if_pos (show bI false = 0 from rfl)]; exact ⟨z1, rfl, kr, FrQc.rfl', Fr4.rfl'⟩
      | true =>
        rw [if_neg (show ¬ bI true = 0 from one0), k.2.1, lnk_s, un1.1, grd_true, k.2.2.1, (un1.2.1 f hf).1.2.2, cal_s]
        obtain ⟨z3, u1, u2, u3, u4⟩ := kr.failX (F := F) (v := 15) (by omega) (by omega)
        have u1' : fn_X3_fail F sh n z1 62 15 = some (z3, ()) := u1
        have er : resOf U f = ((fnOf U f).1 / 4 % 2 == 1) := rfl
        by_cases d : (fnOf U f).1 / 4 % 2 = 0
        · rw [if_pos ((fl4 _ f8').mpr d), u1', cal_s, er, d]
          exact ⟨z3, rfl, u2, u3, u4⟩
        · rw [if_neg (fun q => d ((fl4 _ f8').mp q)), er, show (fnOf U f).1 / 4 % 2 = 1 by omega]
          exact ⟨z1, rfl, kr, FrQc.rfl', Fr4.rfl'⟩
    obtain ⟨z2, p1, p2, p3, p4⟩ := e62
    have ar2 := ar.f4 p4
    have hr2 : ∀ M', (nd_ (!resOf U a || resOf U f) 15 >>= fun _ => (.ok M : Px Lks)) = .ok M' → M' = M := fun M' e => by
      cases eb : (!resOf U a || resOf U f) with
      | false => rw [eb] at e; cases e
      | true => rw [eb] at e; cases e; rfl
    obtain ⟨z3, g', q1, q2, q3, q4⟩ := e101 (F := F) (a := a) (p18 := bI (resOf U a)) (M := M) hF (tksOf U a).length 0 F z2 _ (by omega) (by omega) p2 hr2 ar2
    have q1' : fn_X3_enter_L101 F sh n 62 (nI (tksOf U a).length) (bI (resOf U a)) (nI a) F z2 0 0 (nI M.1.1) = _ := q1
    show ∃ z', fn_X3_enter_B62 F sh n 62 (nI (tksOf U a).length) (nI a) z1 (bI (resOf U a)) = some (z', ()) ∧ _ ∧ _
    rw [p1]
    unfold fn_X3_enter_B89
    rw [ar2.1, lt_t, q1']
    have ar3 := ar2.f4 q4
    rw [← List.range_eq_range'] at q2
    generalize eX : orO ((List.range (tksOf U a).length).map (fun k => L.1.2 (M.1.1 + k))) = X at *
    generalize eY : orO (((List.range (tksOf U a).length).map (fun k => L.1.2 (M.1.1 + k))).filter (fun s => hdT s.1 == 9)) = Y at *
    generalize eB : (List.range (tksOf U a).length).all (argG ls M (tksOf U a).length (fun k => L.1.2 (M.1.1 + k))) = B2 at *
    have hr3 : ∀ M', ((nd_ (!resOf U a || resOf U f) 15 >>= fun _ => (.ok M : Px Lks)) >>= fun M' => nd_ B2 6 >>= fun _ => .ok M') = .ok M' → M' = M := fun M' e => by
      cases eb : (!resOf U a || resOf U f) with
      | false => rw [eb] at e; cases e
      | true =>
        rw [eb] at e
        cases B2 with
        | false => cases e
        | true => cases e; rfl
    generalize eR : ((nd_ (!resOf U a || resOf U f) 15 >>= fun _ => (.ok M : Px Lks)) >>= fun M' => nd_ B2 6 >>= fun _ => .ok M') = R3 at *
    have e3 : ∃ z4, fn_X3_enter_L101 F sh n 62 (nI (tksOf U a).length) (bI (resOf U a)) (nI a) (g' + 1) z3 X Y (nI (M.1.1 + (tksOf U a).length)) = fn_X3_enter_B217 F sh n 62 (nI a) X Y z4 ∧ CR sh n z4 kp f ls U.1.2.2 (R3 >>= fun M' => nd_ (!resOf U a || !(mtB X (-281474976710656) || lvB ls M (-281474976710656) false)) 6 >>= fun _ => .ok M') ∧ FrQc z3 z4 := by
      unfold fn_X3_enter_L101
      rw [ar3.1, nI_add, if_pos ((nI_leI (by have := ar3.2.1; omega) (by have := ar3.2.1; omega)).mpr (by omega))]
      obtain ⟨z5, u1, u2, u3, u4⟩ := q2.failX (F := F) (v := 6) (by omega) (by omega)
      have u1' : fn_X3_fail F sh n z3 62 6 = some (z5, ()) := u1
      obtain ⟨l1, l2⟩ := q2.live_c (F := F) hF (x := -281474976710656) (wr := false)
      cases c : resOf U a with
      | false =>
        rw [if_pos (show bI false = 0 from rfl)]
        refine ⟨z3, rfl, ?_, FrQc.rfl'⟩
        cases R3 <;> exact q2
      | true =>
        rw [if_neg (show ¬ bI true = 0 from one0)]
        cases er : R3 with
        | error w =>
          obtain ⟨b, eb⟩ := l2 w er
          have eb' : fn_X3_isLive F sh n z3 62 (-281474976710656) 0 = some (z3, b) := eb
          rw [er] at q2
          have ef : fn_X3_fail F sh n z3 62 6 = some (z3, ()) := q2.2.fail_e q2.1 _
          refine ⟨z3, ?_, q2, FrQc.rfl'⟩
          rw [eb', cal_s]
          unfold fn_X3_enter_B211
          rw [ef, cal_s]
          by_cases c1 : X &&& (-281474976710656) = 0
          · rw [if_pos c1]
            by_cases c2 : b = 0
            · rw [if_pos c2]
            · rw [if_neg c2]
          · rw [if_neg c1]
        | ok M' =>
          have eM' := hr3 M' er
          rw [eM'] at er
          have l3 := l1 M er
          have l3' : fn_X3_isLive F sh n z3 62 (-281474976710656) 0 = some (z3, bI (lvB ls M (-281474976710656) false)) := l3
          rw [er] at q2 u2
          unfold fn_X3_enter_B211
          rw [l3', cal_s, u1', cal_s, ok_b, Bool.not_true, Bool.false_or]
          cases m : mtB X (-281474976710656) with
          | true =>
            rw [if_neg (fun q => by have := mtB_0.mp q; rw [m] at this; exact absurd this (by simp))]
            exact ⟨z5, rfl, u2, u3⟩
          | false =>
            rw [if_pos (mtB_0.mpr m), Bool.false_or]
            cases lvB ls M (-281474976710656) false with
            | false => rw [if_pos (show bI false = 0 from rfl), eM']; exact ⟨z3, rfl, q2, FrQc.rfl'⟩
            | true => rw [if_neg (show ¬ bI true = 0 from one0)]; exact ⟨z5, rfl, u2, u3⟩
    obtain ⟨z4, v1, v2, v3⟩ := e3
    have f4 := ((s3.trans p3).trans q3).trans v3
    obtain ⟨z5, w1, w2, w3⟩ := e220 (F := F) hF hu hm ha X Y (gvsOf U a).length 0 F z4 _ (by omega) (by omega) v2 f4
    have w1' : fn_X3_enter_L220 F sh n 62 (nI a) X Y F z4 0 = _ := w1
    rw [v1]
    unfold fn_X3_enter_B217
    rw [w1', ok_b]
    refine ⟨z5, rfl, ?_, f4.trans w3⟩
    have eP : (mtB X (-281474976710656) || lvB ls M (-281474976710656) false) = ((List.range 15).any (fun b => ob X (48 + b) || lPt ls M (48 + b) false) || ob X 63) := by
      rw [pts48 X (fun b => lPt ls M b false), mtRES, lvRES m63]
    rw [eP] at w2
    show CR sh n z5 kp f ls U.1.2.2 (nd_ (!resOf U a || resOf U f) 15 >>= fun _ => nd_ ((List.range (tksOf U a).length).all (argG ls M (tksOf U a).length (fun k => L.1.2 (M.1.1 + k)))) 6 >>= fun _ => nd_ (!resOf U a || !((List.range 15).any (fun b => ob (orO ((List.range (tksOf U a).length).map (fun k => L.1.2 (M.1.1 + k)))) (48 + b) || lPt ls M (48 + b) false) || ob (orO ((List.range (tksOf U a).length).map (fun k => L.1.2 (M.1.1 + k)))) 63)) 6 >>= fun _ => aGives ((gvsOf U a).map (fun t => (t, rO t (if hdT t = 9 then orO (((List.range (tksOf U a).length).map (fun k => L.1.2 (M.1.1 + k))).filter (fun s => hdT s.1 == 9)) else orO ((List.range (tksOf U a).length).map (fun k => L.1.2 (M.1.1 + k)))), rI t true))) M)
    rw [eX, eY, eB]
    rw [List.drop_zero, ← eR] at w2
    simpa only [bA, ok_b] using w2
end
