/-! THE REFERENCE'S LOOKER: structures, giving back -/
section
variable {F n : Nat} {sh : Nat → Nat × Nat} {z z' : St} {ku f w ns : Nat} {ls : List Ty} {L : Lks} {U : Md}
theorem getD_mem {l : List Ty} {b : Nat} (hb : b < l.length) : l.getD b [] ∈ l := by
  rw [List.getD_eq_getElem?_getD, List.getElem?_eq_getElem hb]; exact List.getElem_mem hb
theorem drop_get {l : List Ty} {p : Nat} (h : p < l.length) : l.drop p = l.getD p [] :: l.drop (p + 1) := by
  rw [List.drop_eq_getElem_cons h, List.getD_eq_getElem?_getD, List.getElem?_eq_getElem h]; rfl
theorem RK.pack (hF : 300 ≤ F) (h : RK sh n z ku f ls U.1.2.2 0 L) (hu : ∀ z', FrLk z z' → UnL F sh n z' ku U) (hm : MdO U) {o a : Nat} (o1 : o = 21 ∨ o = 22) (ha : a < U.1.2.1) : OpR sh n z ku f ls U.1.2.2 (fn_X13_pack F sh n z 355 (bI (o == 21)) (nI a)) (aPack U o a L) := by
  have hsz := hm.2.1
  have ts : TBr U.1.2.2 [6, a] := TBrs (by omega) (by omega)
  have h0 : RR sh n z ku f ls U.1.2.2 (.ok L) := h
  obtain ⟨l16, tys⟩ := hm.2.2.1 a ha
  unfold fn_X13_pack aPack
  rcases o1 with e | e
  · subst e
    rw [if_neg (show ¬ bI (21 == 21) = 0 from one0), if_pos rfl]
    unfold fn_X13_pack_B12
    have lp : ∀ r p g z1 rr, p + r = (fdsOf U a).length → r < g → RR sh n z1 ku f ls U.1.2.2 rr → FrLk z z1 → ∃ z', fn_X13_pack_L14 F sh n 355 (nI a) 1 g z1 (nI p) = some (z', ()) ∧ RR sh n z' ku f ls U.1.2.2 (rr >>= aTakes ((fdsOf U a).reverse.drop p) >>= lPush ([6, a], 0, false)) ∧ FrLk z1 z' := by
      intro r
      induction r with
      | zero =>
        intro p g z1 rr ep hg T fz
        obtain ⟨g, rfl⟩ : ∃ q, g = q + 1 := ⟨g - 1, by omega⟩
        have un := hu z1 fz
        obtain ⟨z2, p1, p2, p3⟩ := T.give (F := F) hF (t := [6, a]) (x := tL [6, a]) (fun _ _ => ⟨ts, rfl⟩)
        conv => enter [1, z', 1, 1]; unfold fn_X13_pack_L14
        rw [T.o13, grd_true, T.un, lnk_s, un.1, grd_true, (un.2.2.1 a ha).1, cal_s, if_pos ((nI_leI (by omega) (by omega)).mpr (by omega)), if_neg (by decide), stR_t (by omega), cal_s, p1, cal_s]
        refine ⟨z2, rfl, ?_, p3⟩
        rw [List.drop_eq_nil_of_le (by rw [List.length_reverse]; omega)]
        cases rr <;> exact p2
      | succ r ih =>
        intro p g z1 rr ep hg T fz
        obtain ⟨g, rfl⟩ : ∃ q, g = q + 1 := ⟨g - 1, by omega⟩
        have un := hu z1 fz
        have hb : (fdsOf U a).length - 1 - p < (fdsOf U a).length := by omega
        have pl := tys _ (getD_mem hb)
        obtain ⟨z2, p1, p2, p3⟩ := T.takeT (F := F) pl.1.1
        obtain ⟨z3, s1, s2, s3⟩ := ih (p + 1) g z2 _ (by omega) (by omega) p2 (fz.trans p3)
        have ei : nI (fdsOf U a).length - 1 - nI p = nI ((fdsOf U a).length - 1 - p) := by
          obtain ⟨c, ec⟩ : ∃ c, (fdsOf U a).length = c + 1 := ⟨(fdsOf U a).length - 1, by omega⟩
          rw [ec, ← nI_1, Int32.add_sub_cancel, Nat.add_sub_cancel]
          exact pk_sub (by omega)
        conv => enter [1, z', 1, 1]; unfold fn_X13_pack_L14
        rw [T.o13, grd_true, T.un, lnk_s, un.1, grd_true, (un.2.2.1 a ha).1, cal_s, if_neg (fun q => by have := (nI_leI (by omega) (by omega)).mp q; omega), if_neg (by decide), T.un, lnk_s, lnk_s, un.1, grd_true, (un.2.2.1 a ha).1, cal_s, grd_true, ei, (un.2.2.1 a ha).2 _ hb, cal_s, p1, cal_s]
        unfold fn_X13_pack_B70
        rw [nI_1]
        refine ⟨z3, s1, ?_, p3.trans s3⟩
        have hr : p < (fdsOf U a).reverse.length := by rw [List.length_reverse]; omega
        have eg : (fdsOf U a).reverse.getD p [] = (fdsOf U a).getD ((fdsOf U a).length - 1 - p) [] := by
          rw [List.getD_eq_getElem?_getD, List.getD_eq_getElem?_getD, List.getElem?_reverse (by omega)]
        rw [drop_get hr, eg]
        rw [px_assoc rr] at s2
        exact s2
    obtain ⟨z3, s1, s2, s3⟩ := lp (fdsOf U a).length 0 F z (.ok L) (by omega) (by omega) h0 FrLk.rfl'
    rw [List.drop_zero] at s2
    exact ⟨z3, s1, s2, s3⟩
  · subst e
    rw [if_pos (show bI (22 == 21) = 0 from rfl), if_neg (by decide), stR_t (by omega), cal_s, h.o13, grd_true]
    obtain ⟨z1, q1, q2, q3⟩ := h0.takeT (F := F) ts.1
    rw [q1, cal_s]
    unfold fn_X13_pack_B12
    have lp : ∀ r p g z1 rr, p + r = (fdsOf U a).length → r < g → RR sh n z1 ku f ls U.1.2.2 rr → FrLk z z1 → ∃ z', fn_X13_pack_L14 F sh n 355 (nI a) 0 g z1 (nI p) = some (z', ()) ∧ RR sh n z' ku f ls U.1.2.2 (rr >>= aGives (((fdsOf U a).drop p).map (fun t => (t, 0, false)))) ∧ FrLk z1 z' := by
      intro r
      induction r with
      | zero =>
        intro p g z1 rr ep hg T fz
        obtain ⟨g, rfl⟩ : ∃ q, g = q + 1 := ⟨g - 1, by omega⟩
        have un := hu z1 fz
        conv => enter [1, z', 1, 1]; unfold fn_X13_pack_L14
        rw [T.o13, grd_true, T.un, lnk_s, un.1, grd_true, (un.2.2.1 a ha).1, cal_s, if_pos ((nI_leI (by omega) (by omega)).mpr (by omega)), if_pos rfl]
        refine ⟨z1, rfl, ?_, FrLk.rfl'⟩
        rw [List.drop_eq_nil_of_le (by omega)]
        cases rr <;> exact T
      | succ r ih =>
        intro p g z1 rr ep hg T fz
        obtain ⟨g, rfl⟩ : ∃ q, g = q + 1 := ⟨g - 1, by omega⟩
        have un := hu z1 fz
        have hb : p < (fdsOf U a).length := by omega
        have pl := tys _ (getD_mem hb)
        obtain ⟨z2, p1, p2, p3⟩ := T.give (F := F) hF (t := (fdsOf U a).getD p []) (x := tL ((fdsOf U a).getD p [])) (fun _ _ => ⟨pl.1, rfl⟩)
        obtain ⟨z3, s1, s2, s3⟩ := ih (p + 1) g z2 _ (by omega) (by omega) p2 (fz.trans p3)
        conv => enter [1, z', 1, 1]; unfold fn_X13_pack_L14
        rw [T.o13, grd_true, T.un, lnk_s, un.1, grd_true, (un.2.2.1 a ha).1, cal_s, if_neg (fun q => by have := (nI_leI (by omega) (by omega)).mp q; omega), if_pos rfl, T.un, lnk_s, un.1, grd_true, (un.2.2.1 a ha).2 p hb, cal_s, p1, cal_s]
        unfold fn_X13_pack_B70
        rw [nI_1]
        refine ⟨z3, s1, ?_, p3.trans s3⟩
        rw [drop_get hb, List.map_cons]
        rw [px_assoc rr] at s2
        exact s2
    obtain ⟨z3, s1, s2, s3⟩ := lp (fdsOf U a).length 0 F z1 _ (by omega) (by omega) q2 q3
    rw [List.drop_zero] at s2
    exact ⟨z3, s1, s2, q3.trans s3⟩
/-- giving back -/
theorem RK.giveBack (hF : 300 ≤ F) (h : RK sh n z ku f ls U.1.2.2 0 L) (hu : ∀ z', FrLk z z' → UnL F sh n z' ku U) (hm : MdO U) (hf : f < faOf U) : OpR sh n z ku f ls U.1.2.2 (fn_X13_giveBack F sh n z 355) (aBack U f ls L) := by
  have un := hu z FrLk.rfl'
  obtain ⟨⟨m0, m1, mf⟩, mt, mg⟩ := un.2.1 f hf
  obtain ⟨f8, t8, g8, tt, tg⟩ := hm.2.2.2.2 f hf
  -- locals that are left
  have l132 : ∀ r p g z1, p + r = ls.length → r < g → RK sh n z1 ku f ls U.1.2.2 0 L → FrLk z z1 → ∃ z', fn_X13_giveBack_L132 F sh n 355 g z1 (nI p) = some (z', ()) ∧ RR sh n z' ku f ls U.1.2.2 (nd_ ((List.range' p r).all (fun k => !L.2.1 k || hasD U (ls.getD k []))) 13 >>= fun _ => .ok L) ∧ FrLk z1 z' := by
    intro r
    induction r with
    | zero =>
      intro p g z1 ep hg k fz
      obtain ⟨g, rfl⟩ : ∃ q, g = q + 1 := ⟨g - 1, by omega⟩
      have a5 := k.2.1.2.2.2.1
      conv => enter [1, z', 1, 1]; unfold fn_X13_giveBack_L132
      rw [k.2.1.2.2.1, if_pos ((nI_leI (by omega) (by omega)).mpr (by omega))]
      exact ⟨z1, rfl, k, FrLk.rfl'⟩
    | succ r ih =>
      intro p g z1 ep hg k fz
      obtain ⟨g, rfl⟩ : ∃ q, g = q + 1 := ⟨g - 1, by omega⟩
      have a5 := k.2.1.2.2.2.1
      obtain ⟨ok, cp, e1, _, _⟩ := k.lr (a := p) (by omega)
      obtain ⟨g1, g2⟩ := k.2.1.2.2.2.2 p (by omega)
      have b176 : ∀ b b' : Bool, b' = b → ∃ z', fn_X13_giveBack_B176 F sh n 355 (nI p) (fun z9 q2 => fn_X13_giveBack_L132 F sh n 355 g z9 q2) z1 (bI b) = some (z', ()) ∧ RR sh n z' ku f ls U.1.2.2 (nd_ (b' && (List.range' (p + 1) r).all (fun k => !L.2.1 k || hasD U (ls.getD k []))) 13 >>= fun _ => .ok L) ∧ FrLk z1 z' := fun b b' eb => by
        subst eb
        obtain ⟨z2, v1, v2, v3, v4, v5⟩ := k.nd (F := F) b' (v := 13) (by omega) (by omega)
        have v1' : fn_X13_need F sh n z1 355 (bI b') 13 = some (z2, ()) := v1
        unfold fn_X13_giveBack_B176
        rw [v1', cal_s, nI_1]
        cases b' with
        | false =>
          have k' := v5 rfl
          obtain ⟨g', rfl⟩ : ∃ q, g = q + 1 := ⟨g - 1, by omega⟩
          refine ⟨z2, ?_, ⟨by decide, _, k'⟩, v2⟩
          show fn_X13_giveBack_L132 F sh n 355 (g' + 1) z2 (nI (p + 1)) = _
          conv => lhs; unfold fn_X13_giveBack_L132
          rw [if_neg (k'.ee (by omega))]
          by_cases c : z2.1 355 2 ≤ nI (p + 1)
          · rw [if_pos c]
          · rw [if_neg c]
        | true =>
          obtain ⟨z3, s1, s2, s3⟩ := ih (p + 1) g z2 (by omega) (by omega) (v4 rfl) (fz.trans v2)
          rw [Bool.true_and]
          exact ⟨z3, s1, s2, v2.trans s3⟩
      rw [rng_a]
      conv => enter [1, z', 1, 1]; unfold fn_X13_giveBack_L132
      rw [k.2.1.2.2.1, if_neg (fun q => by have := (nI_leI (by omega) (by omega)).mp q; omega), if_pos k.e0, k.1.2.2 355 15 365 rfl, lnk_s, ok 365 103 rfl (by omega), grd_true, cp, e1]
      cases t : L.2.1 p with
      | false =>
        rw [if_pos (show bI false = 0 from rfl)]
        exact b176 true _ rfl
      | true =>
        rw [if_neg (show ¬ bI true = 0 from one0), k.1.2.2 355 3 356 rfl, lnk_s, ok 356 102 rfl (by omega), grd_true, g1, (k.has hF (hu z1 fz) hm g2).2.1, cal_s]
        cases d : hasD U (ls.getD p []) with
        | false => rw [if_pos (show bI false = 0 from rfl)]; exact b176 false _ rfl
        | true => rw [if_neg (show ¬ bI true = 0 from one0)]; exact b176 true _ rfl
  have l132e : ∀ g z1 w M p, RK sh n z1 ku f ls U.1.2.2 w M → 0 < w → 0 < g → fn_X13_giveBack_L132 F sh n 355 g z1 p = some (z1, ()) := fun g z1 w M p k w0 hg => by
    obtain ⟨g, rfl⟩ : ∃ q, g = q + 1 := ⟨g - 1, by omega⟩
    conv => lhs; unfold fn_X13_giveBack_L132
    rw [if_neg (k.ee w0)]
    by_cases c : z1.1 355 2 ≤ p
    · rw [if_pos c]
    · rw [if_neg c]
  -- origins
  have l83 : ∀ r p g z1, p + r = L.1.1 → r < g → RK sh n z1 ku f ls U.1.2.2 0 L → FrLk z z1 → ∃ z', fn_X13_giveBack_L83 F sh n 355 g z1 (nI p) = some (z', ()) ∧ RR sh n z' ku f ls U.1.2.2 (nd_ ((List.range' p r).all (fun k => (L.1.2 k).2.1 &&& (-280375465082881 : Int64) == 0)) 14 >>= fun _ => nd_ ((List.range ls.length).all (fun k => !L.2.1 k || hasD U (ls.getD k []))) 13 >>= fun _ => .ok L) ∧ FrLk z1 z' := by
    intro r
    induction r with
    | zero =>
      intro p g z1 ep hg k fz
      obtain ⟨g, rfl⟩ : ∃ q, g = q + 1 := ⟨g - 1, by omega⟩
      have b2 := k.2.2.1.2.1
      obtain ⟨z2, s1, s2, s3⟩ := l132 ls.length 0 F z1 (by omega) (by have := k.2.1.2.2.2.1; omega) k fz
      conv => enter [1, z', 1, 1]; unfold fn_X13_giveBack_L83
      rw [k.2.2.1.1, if_pos ((nI_leI (by omega) (by omega)).mpr (by omega))]
      rw [← List.range_eq_range'] at s2
      exact ⟨z2, s1, s2, s3⟩
    | succ r ih =>
      intro p g z1 ep hg k fz
      obtain ⟨g, rfl⟩ : ∃ q, g = q + 1 := ⟨g - 1, by omega⟩
      have b2 := k.2.2.1.2.1
      obtain ⟨_, e2, _, _⟩ := k.2.2.1.2.2.2 p (by omega)
      have cp : (nI p).toNatClampNeg = p := nI_clamp (by omega)
      have ok : okA sh n 363 102 (nI p) = true := by rw [lay_a k.1 363 102 200 (by omega) rfl]; exact okI_nI (by omega) (by omega)
      have b119 : ∀ b b' : Bool, b' = b → ∃ z', fn_X13_giveBack_B119 F sh n 355 (nI p) (fun z9 q2 => fn_X13_giveBack_L83 F sh n 355 g z9 q2) z1 (bI b) = some (z', ()) ∧ RR sh n z' ku f ls U.1.2.2 (nd_ (b' && (List.range' (p + 1) r).all (fun k => (L.1.2 k).2.1 &&& (-280375465082881 : Int64) == 0)) 14 >>= fun _ => nd_ ((List.range ls.length).all (fun k => !L.2.1 k || hasD U (ls.getD k []))) 13 >>= fun _ => .ok L) ∧ FrLk z1 z' := fun b b' eb => by
        subst eb
        obtain ⟨z2, v1, v2, v3, v4, v5⟩ := k.nd (F := F) b' (v := 14) (by omega) (by omega)
        have v1' : fn_X13_need F sh n z1 355 (bI b') 14 = some (z2, ()) := v1
        unfold fn_X13_giveBack_B119
        rw [v1', cal_s, nI_1]
        cases b' with
        | false =>
          have k' := v5 rfl
          obtain ⟨g', rfl⟩ : ∃ q, g = q + 1 := ⟨g - 1, by omega⟩
          refine ⟨z2, ?_, ⟨by decide, _, k'⟩, v2⟩
          have e130 : fn_X13_giveBack_B130 F sh n 355 z2 = some (z2, ()) := l132e F z2 14 L 0 k' (by omega) (by omega)
          show fn_X13_giveBack_L83 F sh n 355 (g' + 1) z2 (nI (p + 1)) = _
          conv => lhs; unfold fn_X13_giveBack_L83
          rw [if_neg (k'.ee (by omega)), e130]
          by_cases c : z2.1 355 14 ≤ nI (p + 1)
          · rw [if_pos c]
          · rw [if_neg c]
        | true =>
          obtain ⟨z3, s1, s2, s3⟩ := ih (p + 1) g z2 (by omega) (by omega) (v4 rfl) (fz.trans v2)
          rw [Bool.true_and]
          exact ⟨z3, s1, s2, v2.trans s3⟩
      rw [rng_a]
      conv => enter [1, z', 1, 1]; unfold fn_X13_giveBack_L83
      rw [k.2.2.1.1, if_neg (fun q => by have := (nI_leI (by omega) (by omega)).mp q; omega), if_pos k.e0, k.1.2.2 355 12 363 rfl, lnk_s, ok, grd_true, cp, e2]
      by_cases c : (L.1.2 p).2.1 &&& (-280375465082881 : Int64) = 0
      · rw [if_pos c]; exact b119 true _ (beq_iff_eq.mpr c)
      · rw [if_neg c]; exact b119 false _ (beq_eq_false_iff_ne.mpr c)
  have b74 : ∀ b b' : Bool, b' = b → ∃ z', fn_X13_giveBack_B74 F sh n 355 z (bI b) = some (z', ()) ∧ RR sh n z' ku f ls U.1.2.2 (nd_ b' 12 >>= fun _ => nd_ ((List.range L.1.1).all (fun k => (L.1.2 k).2.1 &&& (-280375465082881 : Int64) == 0)) 14 >>= fun _ => nd_ ((List.range ls.length).all (fun k => !L.2.1 k || hasD U (ls.getD k []))) 13 >>= fun _ => .ok L) ∧ FrLk z z' := fun b b' eb => by
    subst eb
    obtain ⟨z2, v1, v2, v3, v4, v5⟩ := h.nd (F := F) b' (v := 12) (by omega) (by omega)
    have v1' : fn_X13_need F sh n z 355 (bI b') 12 = some (z2, ()) := v1
    unfold fn_X13_giveBack_B74
    rw [v1', cal_s]
    cases b' with
    | false =>
      have k' := v5 rfl
      obtain ⟨F', eF⟩ : ∃ q, F = q + 1 := ⟨F - 1, by omega⟩
      refine ⟨z2, ?_, ⟨by decide, _, k'⟩, v2⟩
      have e130 : fn_X13_giveBack_B130 F sh n 355 z2 = some (z2, ()) := l132e F z2 12 L 0 k' (by omega) (by omega)
      have e83 : fn_X13_giveBack_L83 F sh n 355 (F' + 1) z2 0 = some (z2, ()) := by
        conv => lhs; unfold fn_X13_giveBack_L83
        rw [if_neg (k'.ee (by omega)), e130]
        by_cases c : z2.1 355 14 ≤ 0
        · rw [if_pos c]
        · rw [if_neg c]
      rw [← eF] at e83
      exact e83
    | true =>
      obtain ⟨z3, s1, s2, s3⟩ := l83 L.1.1 0 F z2 (by omega) (by have := h.2.2.1.2.1; omega) (v4 rfl) v2
      rw [← List.range_eq_range'] at s2
      exact ⟨z3, s1, s2, v2.trans s3⟩
  -- types
  have l27 : ∀ r p g (acc : Bool), p + r = L.1.1 → r < g → (acc = true → L.1.1 = (gvsOf U f).length) → ∃ z', fn_X13_giveBack_L27 F sh n 355 g z (bI acc) (nI p) = some (z', ()) ∧ RR sh n z' ku f ls U.1.2.2 (nd_ (acc && (List.range' p r).all (fun k => (L.1.2 k).1 == (gvsOf U f).getD k [])) 12 >>= fun _ => nd_ ((List.range L.1.1).all (fun k => (L.1.2 k).2.1 &&& (-280375465082881 : Int64) == 0)) 14 >>= fun _ => nd_ ((List.range ls.length).all (fun k => !L.2.1 k || hasD U (ls.getD k []))) 13 >>= fun _ => .ok L) ∧ FrLk z z' := by
    intro r
    induction r with
    | zero =>
      intro p g acc ep hg hl
      obtain ⟨g, rfl⟩ : ∃ q, g = q + 1 := ⟨g - 1, by omega⟩
      have b2 := h.2.2.1.2.1
      conv => enter [1, z', 1, 1]; unfold fn_X13_giveBack_L27
      rw [h.2.2.1.1, if_pos ((nI_leI (by omega) (by omega)).mpr (by omega))]
      exact b74 acc _ (by simp)
    | succ r ih =>
      intro p g acc ep hg hl
      obtain ⟨g, rfl⟩ : ∃ q, g = q + 1 := ⟨g - 1, by omega⟩
      have b2 := h.2.2.1.2.1
      conv => enter [1, z', 1, 1]; unfold fn_X13_giveBack_L27
      rw [h.2.2.1.1, if_neg (fun q => by have := (nI_leI (by omega) (by omega)).mp q; omega)]
      cases acc with
      | false =>
        rw [if_pos (show bI false = 0 from rfl)]
        exact b74 false _ (by rw [Bool.false_and])
      | true =>
        have hl' := hl rfl
        obtain ⟨e1, _, _, e4⟩ := h.2.2.1.2.2.2 p (by omega)
        have cp : (nI p).toNatClampNeg = p := nI_clamp (by omega)
        have ok : okA sh n 362 102 (nI p) = true := by rw [lay_a h.1 362 102 200 (by omega) rfl]; exact okI_nI (by omega) (by omega)
        have tgp := tg _ (getD_mem (l := gvsOf U f) (b := p) (by omega))
        rw [if_neg (show ¬ bI true = 0 from one0), h.1.2.2 355 11 362 rfl, lnk_s, ok, grd_true, h.2.1.1, lnk_s, un.1, grd_true, h.2.1.2.1, mg p (by omega), cal_s, cp, e1, rng_a, Bool.true_and]
        have nx := fun b => ih (p + 1) g b (by omega) (by omega) (fun _ => hl')
        by_cases c : (L.1.2 p).1 = (gvsOf U f).getD p []
        · rw [if_pos (by rw [c])]
          unfold fn_X13_giveBack_B67
          rw [nI_1, show ((L.1.2 p).1 == (gvsOf U f).getD p []) = true from beq_iff_eq.mpr c]
          exact nx true
        · rw [if_neg (fun q => c ((e4.1.inj tgp.1.1).mp q))]
          unfold fn_X13_giveBack_B67
          rw [nI_1, show ((L.1.2 p).1 == (gvsOf U f).getD p []) = false from beq_eq_false_iff_ne.mpr c]
          exact nx false
  unfold fn_X13_giveBack aBack
  rw [h.o13, grd_true, h.2.1.1, lnk_s, un.1, grd_true, h.2.1.2.1, m1, cal_s, h.2.2.1.1]
  unfold fn_X13_giveBack_B24
  have b2 := h.2.2.1.2.1
  by_cases c : L.1.1 = (gvsOf U f).length
  · rw [if_pos (by rw [c]), show (L.1.1 == (gvsOf U f).length) = true from beq_iff_eq.mpr c]
    obtain ⟨z2, s1, s2, s3⟩ := l27 L.1.1 0 F true (by omega) (by omega) (fun _ => c)
    rw [← List.range_eq_range'] at s2
    exact ⟨z2, s1, s2, s3⟩
  · rw [if_neg (fun q => c ((nI_ij (by omega) (by omega)).mp q)), show (L.1.1 == (gvsOf U f).length) = false from beq_eq_false_iff_ne.mpr c]
    obtain ⟨z2, s1, s2, s3⟩ := l27 L.1.1 0 F false (by omega) (by omega) (fun q => absurd q (by simp))
    rw [← List.range_eq_range'] at s2
    exact ⟨z2, s1, s2, s3⟩
end
