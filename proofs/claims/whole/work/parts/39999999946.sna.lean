/-! BOTH MACHINES SIDE BY SIDE: a return, as a step -/
section
variable {E : Ev} {ub : Nat × Nat} {F n : Nat} {sh : Nat → Nat × Nat} {pk : Nat → Nat} {kt : Nat} {sl0 : Int32} {lim : Nat} {zr zc zr1 zc1 : St} {H : Hp} {m : Nat} {ty : Nat → Nat} {fr : Nat → Fm} {nf na : Nat} {ak : Nat → Ask} {g : Nat} {Hc : Hp} {mc : Nat} {phi : Nat → Nat} {Rn : Nat → Option Nat} {cs cl : Nat → Nat → Nat} {cn : Nat → Nat} {ws : Nat → Int64 → Nat → Bool} {U : Md} {L L2 : Lks} {R C : Option (St × Unit)} {Ms : Nat → Option Md} {Ce : Nat → Nat → Nat → Lks}
theorem Fi.base (h : Fi ub Ms Ce fr nf na ak) {i : Nat} : (setF fr (nf - 1) (nxF (fr (nf - 1)) i) 0).1.1 = ub.1 ∧ (setF fr (nf - 1) (nxF (fr (nf - 1)) i) 0).1.2.1 = ub.2 := by
  have h4 := h.2.2.2
  by_cases q : 0 = nf - 1
  · rw [← q, setF_s]; exact h4
  · rw [setF_n q]; exact h4
theorem Fi.low (h : Fi ub Ms Ce fr nf na ak) {i : Nat} : (∀ d, d + 1 < nf → ∃ U U' gv L', Ms (setF fr (nf - 1) (nxF (fr (nf - 1)) i) d).1.1 = some U ∧ (setF fr (nf - 1) (nxF (fr (nf - 1)) i) d).1.2.1 < fsOf U ∧ Ms (setF fr (nf - 1) (nxF (fr (nf - 1)) i) (d + 1)).1.1 = some U' ∧ (setF fr (nf - 1) (nxF (fr (nf - 1)) i) d).1.2.2 < (codeOf U (setF fr (nf - 1) (nxF (fr (nf - 1)) i) d).1.2.1).length ∧ Waits U (locOf U (setF fr (nf - 1) (nxF (fr (nf - 1)) i) d).1.2.1) (setF fr (nf - 1) (nxF (fr (nf - 1)) i) d) L' gv ∧ leD U (locOf U (setF fr (nf - 1) (nxF (fr (nf - 1)) i) d).1.2.1) L' (Ce (setF fr (nf - 1) (nxF (fr (nf - 1)) i) d).1.1 (setF fr (nf - 1) (nxF (fr (nf - 1)) i) d).1.2.1 (setF fr (nf - 1) (nxF (fr (nf - 1)) i) d).1.2.2) ∧ gv.length = (gvsOf U' (setF fr (nf - 1) (nxF (fr (nf - 1)) i) (d + 1)).1.2.1).length ∧ ∀ k, k < gv.length → TyS U U' (gv.getD k []) ((gvsOf U' (setF fr (nf - 1) (nxF (fr (nf - 1)) i) (d + 1)).1.2.1).getD k [])) ∧ ∀ d, d < nf → ∀ U, Ms (setF fr (nf - 1) (nxF (fr (nf - 1)) i) d).1.1 = some U → AskM na ak U.1.1 := by
  obtain ⟨_, h2, h3, _⟩ := h
  refine ⟨fun d hd => ?_, fun d hd V hV => ?_⟩
  · obtain ⟨V, V', gv, L1, w1, w2, w3, w4⟩ := h2 d hd
    refine ⟨V, V', gv, L1, ?_⟩
    rw [setF_n (show d ≠ nf - 1 by omega)]
    by_cases q : d + 1 = nf - 1
    · rw [q, setF_s]
      rw [q] at w3 w4
      exact ⟨w1, w2, w3, w4⟩
    · rw [setF_n q]
      exact ⟨w1, w2, w3, w4⟩
  · refine h3 d hd V ?_
    by_cases q : d = nf - 1
    · subst q; rw [setF_s] at hV; exact hV
    · rw [setF_n q] at hV; exact hV
/-- 1 -/
theorem step_ret (hF : 300 ≤ F) (lw : LgW pk Ms) (h : Sm E sh n pk kt sl0 lim 1 zr1 zc1 H m ty fr nf na ak (g + 1) Hc mc phi Rn cs cl cn ws) (low : ∀ d, d + 1 < nf → ∃ U U' gv L', Ms (fr d).1.1 = some U ∧ (fr d).1.2.1 < fsOf U ∧ Ms (fr (d + 1)).1.1 = some U' ∧ (fr d).1.2.2 < (codeOf U (fr d).1.2.1).length ∧ Waits U (locOf U (fr d).1.2.1) (fr d) L' gv ∧ leD U (locOf U (fr d).1.2.1) L' (Ce (fr d).1.1 (fr d).1.2.1 (fr d).1.2.2) ∧ gv.length = (gvsOf U' (fr (d + 1)).1.2.1).length ∧ ∀ k, k < gv.length → TyS U U' (gv.getD k []) ((gvsOf U' (fr (d + 1)).1.2.1).getD k [])) (ask : ∀ d, d < nf → ∀ U, Ms (fr d).1.1 = some U → AskM na ak U.1.1) (hub : (fr 0).1.1 = ub.1 ∧ (fr 0).1.2.1 = ub.2) (eU : Ms (fr (nf - 1)).1.1 = some U) (fm : FM U (locOf U (fr (nf - 1)).1.2.1) (fr (nf - 1)) L) (hb : aBack U (fr (nf - 1)).1.2.1 (locOf U (fr (nf - 1)).1.2.1) L = .ok L2) {ku : Nat} (hu : zr1.2.2 337 48 = some ku) (ho : okO sh n ku 16 = true) (hgr : fn_X16_many F sh n zr1 ku (nI (fr (nf - 1)).1.2.1) 1 = some (zr1, nI (gvsOf U (fr (nf - 1)).1.2.1).length)) (hoc : okO sh n (pk (fr (nf - 1)).1.1) 5 = true) {lc : Nat} (hd : DpC F sh n zc1 (pk (fr (nf - 1)).1.1) (fr (nf - 1)).1.2.1 lc (nf - 1)) (hgc : fn_X5_gives F sh n zc1 (pk (fr (nf - 1)).1.1) (nI (fr (nf - 1)).1.2.1) = some (zc1, nI (gvsOf U (fr (nf - 1)).1.2.1).length)) {to : Int32} (f1 : FrB zr zr1) (f2 : FrX zc zc1) : StepR ub E sh n pk kt sl0 lim Ms Ce zr zc na ak g ws (fn_X18_giveBack F sh n zr1 337) (fn_X4_steer F sh n zc1 87 (nI 1) to) := by
  have n0 := h.nf0
  by_cases c1 : nf = 1
  · obtain ⟨z1, z2, p1, p2, p3, p4, p5, p6, p7, p8, p9, p10⟩ := sim_retE (to := to) hF h c1 fm hb hu ho hgr hoc hd hgc
    obtain ⟨y1, y2, _⟩ := back_ok hb
    obtain ⟨I, _, cm0, cj, r, sr, an, na2, rn, rm1, rm2⟩ := h
    subst c1
    exact ⟨z1, z2, p1, p2, f1.trans p3.b, f2.trans p4, .inr (.inl ⟨na, ak, g + 1, AkL.same (by omega), H, m, ty, fr, Hc, mc, phi, Rn, cs, cl, cn, p5, p6, p7, p8, p9, p10, I, r, sr, na2, an, ⟨by omega, by omega⟩, hub, U, L, eU, fm, y1, y2⟩)⟩
  · obtain ⟨V, V', gv, L1, w1, w2, w3, w4, w5, w6, w7, w8⟩ := low (nf - 2) (by omega)
    have e1 : nf - 2 + 1 = nf - 1 := by omega
    have e2 : nf - 1 - 1 = nf - 2 := by omega
    rw [e1] at w3 w7 w8
    have eV : U = V' := by rw [eU] at w3; simpa using w3
    subst eV
    obtain ⟨z1, z2, rl, p1, p2, p3, p4, p5, p6⟩ := sim_ret (to := to) hF h (by omega) w5 fm hb w7 w8 hu ho hgr hoc hd hgc
    have S := Sm.weak (U := V) (ls := locOf V (fr (nf - 2)).1.2.1) (fun k kl kr => by
      rw [e2, setF_s]
      exact (lw _ V w1 _ k w2 kl).mpr kr) p5 (L := L1) (L2 := Ce (fr (nf - 2)).1.1 (fr (nf - 2)).1.2.1 (fr (nf - 2)).1.2.2) (by rw [e2, setF_s]; exact p6) w6
    rw [e2, setF_s, setF_2] at S
    refine ⟨z1, z2, p1, p2, f1.trans p3.b, f2.trans p4, .inr (.inr ⟨H, m, ty, _, nf - 1, na, ak, g + 1, Hc, mc, phi, Rn, _, cl, cn, S, ⟨?_, fun d hd => ?_, fun d hd V1 hV => ?_, ?_⟩, AkL.same (Nat.le_refl _)⟩)⟩
    · rw [e2, setF_s]
      exact ⟨V, w1, w2, w4, p6.weak w6⟩
    · obtain ⟨V1, V2, gv', L3, x1, x2, x3, x4⟩ := low d (by omega)
      refine ⟨V1, V2, gv', L3, ?_⟩
      rw [setF_n (show d ≠ nf - 2 by omega)]
      by_cases q : d + 1 = nf - 2
      · rw [q, setF_s]
        rw [q] at x3 x4
        exact ⟨x1, x2, x3, x4⟩
      · rw [setF_n q]
        exact ⟨x1, x2, x3, x4⟩
    · refine ask d (by omega) V1 ?_
      by_cases q : d = nf - 2
      · subst q; rw [setF_s] at hV; exact hV
      · rw [setF_n q] at hV; exact hV
    · by_cases q : 0 = nf - 2
      · rw [← q, setF_s]
        exact hub
      · rw [setF_n q]; exact hub
end
