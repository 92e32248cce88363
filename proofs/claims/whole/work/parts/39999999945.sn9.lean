/-! BOTH MACHINES SIDE BY SIDE: what a step comes to -/
def StepR (ub : Nat × Nat) (E : Ev) (sh : Nat → Nat × Nat) (n : Nat) (pk : Nat → Nat) (kt : Nat) (sl0 : Int32) (lim : Nat) (Ms : Nat → Option Md) (Ce : Nat → Nat → Nat → Lks) (zr zc : St) (na : Nat) (ak : Nat → Ask) (g : Nat) (ws : Nat → Int64 → Nat → Bool) (R C : Option (St × Unit)) : Prop := ∃ zr' zc', R = some (zr', ()) ∧ C = some (zc', ()) ∧ FrB zr zr' ∧ FrX zc zc' ∧ ((∃ o c g', (o = 1 ∨ o = 2) ∧ RE sh n zr' o c g' ∧ CE sh n zc' o c g' sl0) ∨ (∃ na' ak' g', AkL na ak g na' ak' g' ∧ Done ub E sh n pk sl0 Ms zr' zc' na' ak' g' ws) ∨ ∃ H' m' ty' fr' nf' na' ak' g' Hc' mc' phi' Rn' cs' cl' cn', Sm E sh n pk kt sl0 lim 0 zr' zc' H' m' ty' fr' nf' na' ak' g' Hc' mc' phi' Rn' cs' cl' cn' ws ∧ Fi ub Ms Ce fr' nf' na' ak' ∧ AkL na ak (g + 1) na' ak' g')
section
variable {E : Ev} {ub : Nat × Nat} {F n : Nat} {sh : Nat → Nat × Nat} {pk : Nat → Nat} {kt : Nat} {sl0 : Int32} {lim : Nat} {zr zc zr1 zc1 : St} {H : Hp} {m : Nat} {ty : Nat → Nat} {fr : Nat → Fm} {nf na : Nat} {ak : Nat → Ask} {g : Nat} {Hc : Hp} {mc : Nat} {phi : Nat → Nat} {Rn : Nat → Option Nat} {cs cl : Nat → Nat → Nat} {cn : Nat → Nat} {ws : Nat → Int64 → Nat → Bool} {U : Md} {L' : Lks} {R C : Option (St × Unit)} {Ms : Nat → Option Md} {Ce : Nat → Nat → Nat → Lks}
/-- the topmost frame changes -/
theorem Fi.top {na' g1 g2 : Nat} {ak' : Nat → Ask} (h : Fi ub Ms Ce fr nf na ak) (n0 : 0 < nf) (l : AkL na ak g1 na' ak' g2) {x : Fm} (e1 : x.1.1 = (fr (nf - 1)).1.1) (e2 : x.1.2.1 = (fr (nf - 1)).1.2.1) (ht : ∃ U, Ms x.1.1 = some U ∧ x.1.2.1 < fsOf U ∧ x.1.2.2 < (codeOf U x.1.2.1).length ∧ FM U (locOf U x.1.2.1) x (Ce x.1.1 x.1.2.1 x.1.2.2)) : Fi ub Ms Ce (setF fr (nf - 1) x) nf na' ak' := by
  obtain ⟨_, h2, h3, h4⟩ := h
  refine ⟨by rw [setF_s]; exact ht, fun d hd => ?_, fun d hd V hV => ?_, ?_⟩
  · obtain ⟨V, V', gv, L1, w1, w2, w3, w4⟩ := h2 d hd
    refine ⟨V, V', gv, L1, ?_⟩
    rw [setF_n (show d ≠ nf - 1 by omega)]
    by_cases q : d + 1 = nf - 1
    · rw [q, setF_s, e1, e2]
      rw [q] at w3 w4
      exact ⟨w1, w2, w3, w4⟩
    · rw [setF_n q]
      exact ⟨w1, w2, w3, w4⟩
  · have : Ms (fr d).1.1 = some V := by
      by_cases q : d = nf - 1
      · subst q; rw [setF_s, e1] at hV; exact hV
      · rw [setF_n q] at hV; exact hV
    exact (h3 d hd V this).le l
  · by_cases q : 0 = nf - 1
    · rw [← q, setF_s]
      rw [← q] at e1 e2
      rw [e1, e2]; exact h4
    · rw [setF_n q]; exact h4
/-- an operation in the same frame -/
theorem step_out {i1 : Nat} (lw : LgW pk Ms) (fi : Fi ub Ms Ce fr nf na ak) (n0 : 0 < nf) (eU : Ms (fr (nf - 1)).1.1 = some U) (hf : (fr (nf - 1)).1.2.1 < fsOf U) {P : Nat → Prop} (o : Out E sh n pk kt sl0 lim zr1 zc1 (setF fr (nf - 1) (nxF (fr (nf - 1)) i1)) nf na ak (g + 1) ws U (locOf U (fr (nf - 1)).1.2.1) L' P R C) (hP : ∀ i, P i → i < (codeOf U (fr (nf - 1)).1.2.1).length ∧ leD U (locOf U (fr (nf - 1)).1.2.1) L' (Ce (fr (nf - 1)).1.1 (fr (nf - 1)).1.2.1 i)) (f1 : FrB zr zr1) (f2 : FrX zc zc1) : StepR ub E sh n pk kt sl0 lim Ms Ce zr zc na ak g ws R C := by
  obtain ⟨z1, z2, a1, a2, a3, a4, a5⟩ := o
  refine ⟨z1, z2, a1, a2, f1.trans a3.b, f2.trans a4, ?_⟩
  rcases a5 with w | ⟨H', m', ty', x, na', ak', g', Hc', mc', phi', Rn', cs', cl', cn', b1, bA, b2, b3, b4, b5⟩
  · exact .inl w
  · right; right
    rw [setF_s] at b2 b3
    rw [setF_2] at b1
    have b2' : x.1.1 = (fr (nf - 1)).1.1 := b2
    have b3' : x.1.2.1 = (fr (nf - 1)).1.2.1 := b3
    obtain ⟨p1, p2⟩ := hP _ b4
    have S := Sm.weak (U := U) (fun k kl kr => by
      rw [setF_s, b2', b3']
      exact (lw _ U eU _ k hf kl).mpr kr) (h := b1) (ls := locOf U (fr (nf - 1)).1.2.1) (L := L') (L2 := Ce (fr (nf - 1)).1.1 (fr (nf - 1)).1.2.1 x.1.2.2) (by rw [setF_s]; exact b5) p2
    rw [setF_s, setF_2] at S
    refine ⟨H', m', ty', _, nf, na', ak', g', Hc', mc', phi', Rn', cs', cl', cn', S, fi.top n0 bA b2' b3' ⟨U, ?_, ?_, ?_, ?_⟩, bA⟩
    · show Ms x.1.1 = some U
      rw [b2']; exact eU
    · show x.1.2.1 < fsOf U
      rw [b3']; exact hf
    · show x.1.2.2 < (codeOf U x.1.2.1).length
      rw [b3']; exact p1
    · have fw := b5.weak p2
      show FM U (locOf U x.1.2.1) (wkF (locOf U (fr (nf - 1)).1.2.1) x (Ce (fr (nf - 1)).1.1 (fr (nf - 1)).1.2.1 x.1.2.2)) (Ce x.1.1 x.1.2.1 x.1.2.2)
      rw [b3', b2']; exact fw
/-- a call -/
theorem step_call {i1 u' f' c md : Nat} {U' : Md} {gv : List Ty} (fi : Fi ub Ms Ce fr nf na ak) (n0 : 0 < nf) (eU : Ms (fr (nf - 1)).1.1 = some U) (hf : (fr (nf - 1)).1.2.1 < fsOf U) (eU' : Ms u' = some U') (hf' : f' < fsOf U') (hmd : U'.1.1 = md) (h0 : 0 < (codeOf U' f').length) (gl : gv.length = (gvsOf U' f').length) (gk : ∀ k, k < gv.length → TyS U U' (gv.getD k []) ((gvsOf U' f').getD k [])) (o : OutK E sh n pk kt sl0 lim zr1 zc1 (setF fr (nf - 1) (nxF (fr (nf - 1)) i1)) nf na ak (g + 1) ws U U' (locOf U (fr (nf - 1)).1.2.1) gv L' (Ce u' f' 0) u' f' c md R C) (hi : i1 < (codeOf U (fr (nf - 1)).1.2.1).length) (hl : leD U (locOf U (fr (nf - 1)).1.2.1) L' (Ce (fr (nf - 1)).1.1 (fr (nf - 1)).1.2.1 i1)) (f1 : FrB zr zr1) (f2 : FrX zc zc1) : StepR ub E sh n pk kt sl0 lim Ms Ce zr zc na ak g ws R C := by
  obtain ⟨z1, z2, a1, a2, a3, a4, a5⟩ := o
  refine ⟨z1, z2, a1, a2, f1.trans a3.b, f2.trans a4, ?_⟩
  rcases a5 with w | ⟨H', m', ty', na', ak', g', Hc', mc', phi', Rn', cs', cl', cn', b1, bA, b2, b3, b4⟩
  · exact .inl w
  · right; right
    refine ⟨H', m', ty', _, nf + 1, na', ak', g', Hc', mc', phi', Rn', cs', cl', cn', b1, ⟨?_, fun d hd => ?_, fun d hd V hV => ?_, ?_⟩, bA⟩
    · have eB : enS (setF fr (nf - 1) (nxF (fr (nf - 1)) i1)) nf u' f' c nf = ((u', f', 0), (fun k => if k < c then some (psA (setF fr (nf - 1) (nxF (fr (nf - 1)) i1) (nf - 1)) c k) else none), (0, fun _ => (0, 0, 0, 0, false)), fun _ => none) := by
        unfold enS enF
        rw [setF_s]
      refine ⟨U', ?_, ?_, ?_, ?_⟩
      · show Ms (enS (setF fr (nf - 1) (nxF (fr (nf - 1)) i1)) nf u' f' c nf).1.1 = some U'
        rw [eB]; exact eU'
      · show (enS (setF fr (nf - 1) (nxF (fr (nf - 1)) i1)) nf u' f' c nf).1.2.1 < _
        rw [eB]; exact hf'
      · show (enS (setF fr (nf - 1) (nxF (fr (nf - 1)) i1)) nf u' f' c nf).1.2.2 < (codeOf U' (enS (setF fr (nf - 1) (nxF (fr (nf - 1)) i1)) nf u' f' c nf).1.2.1).length
        rw [eB]; exact h0
      · show FM U' (locOf U' (enS (setF fr (nf - 1) (nxF (fr (nf - 1)) i1)) nf u' f' c nf).1.2.1) (enS (setF fr (nf - 1) (nxF (fr (nf - 1)) i1)) nf u' f' c nf) (Ce (enS (setF fr (nf - 1) (nxF (fr (nf - 1)) i1)) nf u' f' c nf).1.1 (enS (setF fr (nf - 1) (nxF (fr (nf - 1)) i1)) nf u' f' c nf).1.2.1 (enS (setF fr (nf - 1) (nxF (fr (nf - 1)) i1)) nf u' f' c nf).1.2.2)
        have e1 : (enS (setF fr (nf - 1) (nxF (fr (nf - 1)) i1)) nf u' f' c nf).1 = (u', f', 0) := by rw [eB]
        rw [e1]; exact b4
    · have eA : (enS (setF fr (nf - 1) (nxF (fr (nf - 1)) i1)) nf u' f' c (nf - 1)).1 = ((fr (nf - 1)).1.1, (fr (nf - 1)).1.2.1, i1) := by
        unfold enS enF
        rw [setF_n (show nf - 1 ≠ nf by omega), setF_s, setF_s]; rfl
      have eB : (enS (setF fr (nf - 1) (nxF (fr (nf - 1)) i1)) nf u' f' c nf).1 = (u', f', 0) := by
        unfold enS enF
        rw [setF_s]
      have eO : ∀ d, d < nf - 1 → enS (setF fr (nf - 1) (nxF (fr (nf - 1)) i1)) nf u' f' c d = fr d := fun d q => by
        unfold enS enF
        rw [setF_n (by omega), setF_n (by omega), setF_n (by omega)]
      by_cases q : d = nf - 1
      · have q1 : d + 1 = nf := by omega
        rw [q1, q, eA, eB]
        exact ⟨U, U', gv, L', eU, hf, eU', hi, b3, hl, gl, gk⟩
      · obtain ⟨V, V', gv', L1, w1, w2, w3, w4⟩ := fi.2.1 d (by omega)
        rw [eO d (by omega)]
        refine ⟨V, V', gv', L1, w1, w2, ?_⟩
        by_cases q2 : d + 1 = nf - 1
        · rw [q2, eA]
          rw [q2] at w3 w4
          exact ⟨w3, w4⟩
        · rw [eO (d + 1) (by omega)]
          exact ⟨w3, w4⟩
    · by_cases q : d = nf
      · have eB : (enS (setF fr (nf - 1) (nxF (fr (nf - 1)) i1)) nf u' f' c nf).1 = (u', f', 0) := by
          unfold enS enF
          rw [setF_s]
        rw [q, eB] at hV
        have : U' = V := by rw [eU'] at hV; simpa using hV
        rw [← this, hmd]; exact b2
      · have : Ms (fr d).1.1 = some V := by
          by_cases q1 : d = nf - 1
          · have eA : (enS (setF fr (nf - 1) (nxF (fr (nf - 1)) i1)) nf u' f' c (nf - 1)).1 = ((fr (nf - 1)).1.1, (fr (nf - 1)).1.2.1, i1) := by
              unfold enS enF
              rw [setF_n (show nf - 1 ≠ nf by omega), setF_s, setF_s]; rfl
            rw [q1, eA] at hV
            rw [q1]; exact hV
          · have eO : enS (setF fr (nf - 1) (nxF (fr (nf - 1)) i1)) nf u' f' c d = fr d := by
              unfold enS enF
              rw [setF_n (by omega), setF_n (by omega), setF_n (by omega)]
            rw [eO] at hV; exact hV
        exact (fi.2.2.1 d (by omega) V this).le bA
    · have h4 := fi.2.2.2
      by_cases q : 0 = nf - 1
      · have eA : (enS (setF fr (nf - 1) (nxF (fr (nf - 1)) i1)) nf u' f' c (nf - 1)).1 = ((fr (nf - 1)).1.1, (fr (nf - 1)).1.2.1, i1) := by
          unfold enS enF
          rw [setF_n (show nf - 1 ≠ nf by omega), setF_s, setF_s]; rfl
        rw [← q] at eA ⊢
        rw [eA]; exact h4
      · have eO : enS (setF fr (nf - 1) (nxF (fr (nf - 1)) i1)) nf u' f' c 0 = fr 0 := by
          unfold enS enF
          rw [setF_n (by omega), setF_n q, setF_n q]
        rw [eO]; exact h4
end
