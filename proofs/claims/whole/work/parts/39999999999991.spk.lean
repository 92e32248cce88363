/-! THE CLASS'S LOOKER: giving back, resources, rows of values -/
section
variable {F n : Nat} {sh : Nat → Nat × Nat} {z z' : St} {kp f w ns : Nat} {ls : List Ty} {L : Lks} {U : Md}
theorem CK.giveBack (hF : 300 ≤ F) (h : CK sh n z kp f ls U.1.2.2 L) (hu : ∀ z', FrQc z z' → CnL F sh n z' kp U) (hm : MdO U) (hf : f < faOf U) (hd : DrO z U ls) : ∃ z', fn_X3_giveBack F sh n z 62 = some (z', ()) ∧ CR sh n z' kp f ls U.1.2.2 (aBack U f ls L) ∧ FrQc z z' := by
  have h' := h
  obtain ⟨a1, a2, a3, a4, ⟨b1, b2, b3⟩, ⟨c0, c1⟩, c2, c3⟩ := h
  have u0 := hu z FrQc.rfl'
  obtain ⟨m1, m2, m3, m4, m5⟩ := hm.2.2.2.2 f hf
  have k0 : CR sh n z kp f ls U.1.2.2 (.ok L) := h'
  have G : ∀ j v : Bool, fn_X3_giveBack_B99 F sh n 62 z (bI j) (bI v) = fn_X3_giveBack_B99 F sh n 62 z (bI j) (bI v) := fun _ _ => rfl
  -- the end
  have b99 : ∀ j v : Bool, ∃ z', fn_X3_giveBack_B99 F sh n 62 z (bI j) (bI v) = some (z', ()) ∧ CR sh n z' kp f ls U.1.2.2 (nd_ j 12 >>= fun _ => nd_ v 14 >>= fun _ => nd_ ((List.range ls.length).all (fun k => !L.2.1 k || hasD U (ls.getD k []))) 13 >>= fun _ => .ok L) ∧ FrQc z z' := fun j v => by
    obtain ⟨z1, q1, q2, q3, q4⟩ := k0.chkI (F := F) (c := bI j = 0) (v := 12) (iv := 12) rfl (by omega) (by omega) (g := fun _ => j) (fun M _ => by cases j <;> simp [bI]) (k := fun z => fn_X3_giveBack_B109 F sh n (bI v) 62 z)
    obtain ⟨z2, s1, s2, s3, s4⟩ := q2.chkI (F := F) (c := bI v = 0) (v := 14) (iv := 14) rfl (by omega) (by omega) (g := fun _ => v) (fun M _ => by cases v <;> simp [bI]) (k := fun z => fn_X3_giveBack_B119 F sh n 62 z)
    obtain ⟨z3, p1, p2, p3, _⟩ := s2.chkJ (F := F) (c := z2.2.1 62 12 &&& (z2.2.1 62 11 ^^^ (-1)) = 0) (v := 13) (iv := 13) rfl (by omega) (by omega) (g := fun _ => (List.range ls.length).all (fun k => !L.2.1 k || hasD U (ls.getD k []))) (fun M e => by
      have e2 : z2 = z1 := s4 M e
      have e1 : z1 = z := by
        cases j with
        | true => exact q4 L rfl
        | false => cases e
      rw [e2, e1, ob_zero, List.all_eq_true]
      constructor
      · intro q k hk
        have hk' := List.mem_range.mp hk
        have := q k
        rw [ob_and, ob_not, decide_eq_true (show k < 64 by omega), Bool.true_and, (c2 k).1, hd k hk', decide_eq_true hk', Bool.true_and] at this
        cases x1 : L.2.1 k <;> cases x2 : hasD U (ls.getD k []) <;> rw [x1, x2] at this <;> simp_all
      · intro q k
        rw [ob_and, ob_not, (c2 k).1]
        by_cases c : k < ls.length
        · have := q k (List.mem_range.mpr c)
          rw [hd k c, decide_eq_true c, Bool.true_and]
          cases x1 : L.2.1 k <;> cases x2 : hasD U (ls.getD k []) <;> rw [x1, x2] at this <;> simp_all
        · rw [decide_eq_false c]; rfl) (k := fun z => some (z, ()))
    unfold fn_X3_giveBack_B99
    rw [q1]
    unfold fn_X3_giveBack_B109
    rw [s1]
    unfold fn_X3_giveBack_B119
    rw [p1]
    refine ⟨z3, rfl, ?_, (q3.trans s3).trans p3⟩
    simpa only [bA, ok_b] using p2
  -- the loop
  have lp : ∀ r p g (v : Bool), p + r = L.1.1 → r < g → L.1.1 = (gvsOf U f).length → fn_X3_giveBack_L28 F sh n 62 g z 1 (bI v) (nI p) = fn_X3_giveBack_B99 F sh n 62 z (bI ((List.range' p r).all (fun k => (L.1.2 k).1 == (gvsOf U f).getD k []))) (bI (v && (List.range' p r).all (fun k => (L.1.2 k).2.1 &&& (-280375465082881 : Int64) == 0))) ∨ ((List.range' p r).all (fun k => (L.1.2 k).1 == (gvsOf U f).getD k []) = false ∧ ∃ v', fn_X3_giveBack_L28 F sh n 62 g z 1 (bI v) (nI p) = fn_X3_giveBack_B99 F sh n 62 z 0 (bI v')) := by
    intro r
    induction r with
    | zero =>
      intro p g v ep hg eL
      obtain ⟨g, rfl⟩ : ∃ q, g = q + 1 := ⟨g - 1, by omega⟩
      left
      conv => lhs; unfold fn_X3_giveBack_L28
      rw [b1, if_pos ((nI_leI (by omega) (by omega)).mpr (by omega)), List.range'_zero, List.all_nil, List.all_nil, Bool.and_true]
      rfl
    | succ r ih =>
      intro p g v ep hg eL
      obtain ⟨g, rfl⟩ : ∃ q, g = q + 1 := ⟨g - 1, by omega⟩
      have ok : ∀ k c, shF k = (c, 64) → k < 513 → okA sh n k c (nI p) = true := fun k c ee hk => by rw [lay_a a1 k c 64 hk ee]; exact okI_nI (by omega) (by omega)
      have cp : (nI p).toNatClampNeg = p := nI_clamp (by omega)
      obtain ⟨s1, s2, s3, s4, s5⟩ := b3 p (by omega)
      have hp : p < (gvsOf U f).length := by omega
      have gv := (u0.2.1 f hf).2.2 p hp
      have tb := (m5 _ (getD_mem hp)).1
      have b67 : ∀ j : Bool, fn_X3_giveBack_B67 F sh n (bI v) (nI p) 62 (fun z9 q1 q2 q3 => fn_X3_giveBack_L28 F sh n 62 g z9 q1 q2 q3) z (bI j) = fn_X3_giveBack_L28 F sh n 62 g z (bI j) (bI (v && ((L.1.2 p).2.1 &&& (-280375465082881 : Int64) == 0))) (nI (p + 1)) := fun j => by
        unfold fn_X3_giveBack_B67
        cases v with
        | false =>
          rw [if_pos (show bI false = 0 from rfl)]
          unfold fn_X3_giveBack_B91 fn_X3_giveBack_B92
          rw [nI_1]; rfl
        | true =>
          rw [if_neg (show ¬ bI true = 0 from one0), a1.2.2 62 6 64 rfl, lnk_s, ok 64 102 rfl (by omega), grd_true, cp, s2]
          by_cases c : (L.1.2 p).2.1 &&& (-280375465082881 : Int64) = 0
          · rw [if_pos c]
            unfold fn_X3_giveBack_B92
            rw [nI_1, beq_iff_eq.mpr c]; rfl
          · rw [if_neg c]
            unfold fn_X3_giveBack_B91 fn_X3_giveBack_B92
            rw [nI_1, beq_eq_false_iff_ne.mpr c]; rfl
      conv => lhs; lhs; unfold fn_X3_giveBack_L28
      conv => rhs; rhs; arg 1; ext v'; lhs; unfold fn_X3_giveBack_L28
      rw [b1, if_neg (fun q => by have := (nI_leI (by omega) (by omega)).mp q; omega), if_neg (show ¬ (1 : Int32) = 0 from by decide), a1.2.2 62 5 63 rfl, lnk_s, ok 63 102 rfl (by omega), grd_true, a2, lnk_s, u0.1, grd_true, a3, gv, cal_s, cp, s1, rng_a, rng_a]
      by_cases c : (L.1.2 p).1 = (gvsOf U f).getD p []
      · rw [if_pos (by rw [c]), beq_iff_eq.mpr c, Bool.true_and, ← Bool.and_assoc]
        have e := b67 true
        have e' : fn_X3_giveBack_B67 F sh n (bI v) (nI p) 62 (fun z9 q1 q2 q3 => fn_X3_giveBack_L28 F sh n 62 g z9 q1 q2 q3) z 1 = fn_X3_giveBack_L28 F sh n 62 g z 1 (bI (v && ((L.1.2 p).2.1 &&& (-280375465082881 : Int64) == 0))) (nI (p + 1)) := e
        rw [e']
        exact ih (p + 1) g _ (by omega) (by omega) eL
      · rw [if_neg (fun q => c ((s4.1.inj tb.1).mp q)), beq_eq_false_iff_ne.mpr c, Bool.false_and]
        right
        refine ⟨rfl, (v && ((L.1.2 p).2.1 &&& (-280375465082881 : Int64) == 0)), ?_⟩
        · have e' : fn_X3_giveBack_B67 F sh n (bI v) (nI p) 62 (fun z9 q1 q2 q3 => fn_X3_giveBack_L28 F sh n 62 g z9 q1 q2 q3) z 0 = fn_X3_giveBack_L28 F sh n 62 g z 0 (bI (v && ((L.1.2 p).2.1 &&& (-280375465082881 : Int64) == 0))) (nI (p + 1)) := b67 false
          rw [e']
          obtain ⟨g, rfl⟩ : ∃ q, g = q + 1 := ⟨g - 1, by omega⟩
          conv => lhs; unfold fn_X3_giveBack_L28
          rw [if_pos (show (0 : Int32) = 0 from rfl)]
          by_cases d : z.1 62 8 ≤ nI (p + 1)
          · rw [if_pos d]
          · rw [if_neg d]
  unfold fn_X3_giveBack aBack
  rw [h'.cb.o3, grd_true, a2, lnk_s, u0.1, grd_true, a3, ((u0.2.1 f hf).1).2.1, cal_s, b1]
  by_cases c : L.1.1 = (gvsOf U f).length
  · rw [if_pos (by rw [c]), show (L.1.1 == (gvsOf U f).length) = true from beq_iff_eq.mpr c, Bool.true_and]
    unfold fn_X3_giveBack_B23
    have e := lp L.1.1 0 F true (by omega) (by omega) c
    rw [← List.range_eq_range'] at e
    rcases e with e | ⟨e1, v', e2⟩
    · have e' : fn_X3_giveBack_L28 F sh n 62 F z 1 1 0 = _ := e
      rw [e', Bool.true_and]
      exact b99 _ _
    · have e' : fn_X3_giveBack_L28 F sh n 62 F z 1 1 0 = _ := e2
      rw [e', e1]
      obtain ⟨z1, q1, q2, q3⟩ := b99 false v'
      exact ⟨z1, q1, q2, q3⟩
  · rw [if_neg (fun q => c ((nIe (gvsOf U f).length rfl (by omega) (by omega)).mp q)), show (L.1.1 == (gvsOf U f).length) = false from beq_eq_false_iff_ne.mpr c, Bool.false_and]
    unfold fn_X3_giveBack_B23
    obtain ⟨G, eG⟩ : ∃ g, F = g + 1 := ⟨F - 1, by omega⟩
    obtain ⟨z1, q1, q2, q3⟩ := b99 false true
    refine ⟨z1, ?_, q2, q3⟩
    rw [← q1]
    have e : fn_X3_giveBack_L28 F sh n 62 F z 0 1 0 = fn_X3_giveBack_L28 F sh n 62 (G + 1) z 0 1 0 := by rw [← eG]
    rw [e]
    conv => lhs; unfold fn_X3_giveBack_L28
    rw [if_pos (show (0 : Int32) = 0 from rfl)]
    by_cases d : z.1 62 8 ≤ 0
    · rw [if_pos d]; rfl
    · rw [if_neg d]; rfl
end
