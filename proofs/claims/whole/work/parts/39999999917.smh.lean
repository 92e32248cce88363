/-! BOTH MACHINES SIDE BY SIDE: references and copies are given -/
section
variable {F n : Nat} {sh : Nat → Nat × Nat} {z z' : St} {pk : Nat → Nat} {kt : Nat} {H : Hp} {m : Nat} {sl0 : Int32} {fr : Nat → Fm} {cs cl : Nat → Nat → Nat} {nf g lim : Nat}
theorem CM.pushE (h : CM sh n z pk kt H m sl0 fr cs cl nf g lim) (h64 : (fr (nf - 1)).2.2.1.1 < 64) (s : Sl) (v : Nat) : ∃ z', fn_X4_push F sh n z 87 (nI v) = some (z', ()) ∧ CM sh n z' pk kt H m sl0 (setF fr (nf - 1) (pshV (fr (nf - 1)) s)) (up2 cs (nf - 1) (fr (nf - 1)).2.2.1.1 v) cl nf g lim ∧ FrC z z' ∧ ∀ k, 88 ≤ k → k ≤ 92 → z'.1 k = z.1 k ∧ z'.2.1 k = z.2.1 k := by
  obtain ⟨z', p1, p2, p3⟩ := h.push (F := F) h64 s v
  have := cpush_t (F := F) h.1 h.2.2.1 h64 (nI v)
  rw [p1] at this
  have e : z' = cpS z (nf - 1) (fr (nf - 1)).2.2.1.1 (nI v) := by simpa using this
  exact ⟨z', p1, p2, p3, fun k a b => by rw [e]; exact ⟨by funext j; simp [cpS, si_1, show k ≠ 101 by omega, show k ≠ 103 by omega], rfl⟩⟩
theorem CM.copyX (hF : 300 ≤ F) (h : CM sh n z pk kt H m sl0 fr cs cl nf g lim) {d v : Nat} (t : Tr H d v) (hd : d ≤ 40) (hr : m + szA H d v ≤ 21600) (h64 : (fr (nf - 1)).2.2.1.1 < 64) (s : Sl) (hg : g + szA H d v ≤ lim) : ∃ z1 z2 z' H' u' o, fn_X4_pushCopy F sh n z 87 (nI v) = some (z', ()) ∧ CpR z1 H m sl0 d v z2 H' u' o ∧ CM sh n z' pk kt H' u' sl0 (setF fr (nf - 1) (pshV (fr (nf - 1)) s)) (up2 cs (nf - 1) (fr (nf - 1)).2.2.1.1 m) cl nf (g + szA H d v) lim ∧ FrC z z' ∧ ∀ k, 88 ≤ k → k ≤ 92 → z'.1 k = z2.1 k ∧ z'.2.1 k = z2.2.1 k := by
  have sz := sizeOf_t (F := F) hF h.1 h.2.1 t hd
  have sq := szB_q (H := H) d v
  have sb := szB_b (H := H) d v
  have l20 := h.2.2.2.2.2.2.2
  unfold Szq at sq
  rw [show szB H d v = szA H d v by omega] at sz
  have l1 := h.1.2.2 87 1 88 rfl
  have hp := (b_heap h.1).1
  obtain ⟨z1, p1, p2, p3⟩ := h.pay (F := F) hg
  obtain ⟨z2, H', u', o, c1, c2⟩ := copyOf_t (F := F) hF p2.1 p2.2.1 t hd hr
  have f2 : Fr 88 92 z1 z2 := c2.2.2.2.2.2.2.2.1
  obtain ⟨q1, q2⟩ := p2.heap f2 c2.1
  obtain ⟨z3, r1, r2, r3, r4⟩ := q1.pushE (F := F) h64 s m
  refine ⟨z1, z2, z3, H', u', o, ?_, c2, r2, (p3.trans q2).trans r3, r4⟩
  unfold fn_X4_pushCopy
  rw [(b_mach h.1).1, grd_true, l1, lnk_s, hp, grd_true, sz, cal_s, p1, cal_s, if_neg one0, p2.1.2.2 87 1 88 rfl, lnk_s, hp, grd_true, c1, cal_s, r1, cal_s]
/-- a reference's node is copied -/
theorem CM.copyRef (hF : 300 ≤ F) (h : CM sh n z pk kt H m sl0 fr cs cl nf g lim) {v : Nat} {y : Int64} (hv : H v = (8, 0, y, [])) (hm : m < 21600) (h64 : (fr (nf - 1)).2.2.1.1 < 64) (s : Sl) : (lim < g + 1 → ∃ z', fn_X4_pushCopy F sh n z 87 (nI v) = some (z', ()) ∧ CE sh n z' 2 5 lim sl0 ∧ FrC z z') ∧ (g + 1 ≤ lim → ∃ z', fn_X4_pushCopy F sh n z 87 (nI v) = some (z', ()) ∧ CM sh n z' pk kt (upH H m (8, 0, y, [])) (m + 1) sl0 (setF fr (nf - 1) (pshV (fr (nf - 1)) s)) (up2 cs (nf - 1) (fr (nf - 1)).2.2.1.1 m) cl nf (g + 1) lim ∧ FrC z z') := by
  have al : (H v).1 ≠ 0 := by rw [hv]; simp
  have ni : ¬ inn (H v).1 := by rw [hv]; unfold inn; simp
  have t : Tr H 1 v := by
    unfold Tr
    exact ⟨al, fun _ => by rw [hv], fun c hc => by rw [hv] at hc; exact absurd hc (by simp)⟩
  have s1 : szA H 1 v = 1 := by
    unfold szA
    rw [hv]
    simp
  constructor
  · intro hg
    have := (h.copy (F := F) hF t (by omega) (by rw [s1]; omega) h64 s).1 (by rw [s1]; exact hg)
    exact this
  · intro hg
    obtain ⟨z1, z2, z3, H', u', o, q1, q2, q3, q4⟩ := (h.copy (F := F) hF t (by omega) (by rw [s1]; omega) h64 s).2 (by rw [s1]; exact hg)
    rw [s1] at q3
    obtain ⟨k1, k2, k3, k4, k5, k6, _⟩ := q2
    rw [s1] at k3
    have eu : u' = m + 1 := by omega
    subst eu
    obtain ⟨b1, b2, b3, b4, b5, _⟩ := k6 m (Nat.le_refl _) (by omega)
    rw [k5, hv] at b2 b3 b4 b5
    have em : H' m = (8, 0, y, []) := by
      have e4 : (H' m).2.2.2 = [] := by simpa using b5
      have : H' m = ((H' m).1, (H' m).2.1, (H' m).2.2.1, (H' m).2.2.2) := rfl
      rw [this, b2, b3, b4, e4]
    have agree : ∀ i, (upH H m (8, 0, y, []) i).1 ≠ 0 → upH H m (8, 0, y, []) i = H' i ∧ i < m + 1 := fun i hi => by
      by_cases c : i = m
      · subst c; rw [upH_s, em]; exact ⟨rfl, by omega⟩
      · rw [upH_n c] at hi ⊢
        have := (h.2.1.lt hi).2.1
        exact ⟨(k4 i this).symm, by omega⟩
    have HC' : HC z3 (upH H m (8, 0, y, [])) (m + 1) sl0 := by
      obtain ⟨a1, a2, a3, a4, a5⟩ := q3.2.1
      refine ⟨a1, a2, a3, a4, fun i hi => ?_⟩
      obtain ⟨e1, e2⟩ := agree i hi
      rw [e1] at hi ⊢
      obtain ⟨c1, c2, c3, c4, c5⟩ := a5 i hi
      refine ⟨c1, c2, c3, c4, fun c hc => ?_⟩
      have al' := c5 c hc
      have lt := (q3.2.1.lt al').2.1
      by_cases q : c = m
      · subst q; rw [upH_s]; simp
      · rw [upH_n q, ← k4 c (by omega)]; exact al'
    obtain ⟨w1, _⟩ := q3.heap (z' := z3) Fr.rfl' HC'
    exact ⟨z3, q1, w1, q4⟩
end
section
variable {E : Ev} {F n : Nat} {sh : Nat → Nat × Nat} {pk : Nat → Nat} {kt : Nat} {sl0 : Int32} {lim e : Nat} {zr zc zr' zc' : St} {H : Hp} {m : Nat} {ty : Nat → Nat} {fr : Nat → Fm} {nf na : Nat} {ak : Nat → Ask} {g g' : Nat} {Hc : Hp} {mc : Nat} {phi : Nat → Nat} {Rn : Nat → Option Nat} {cs cl : Nat → Nat → Nat} {cn : Nat → Nat} {ws : Nat → Int64 → Nat → Bool} {u : Nat} {U : Md} {ls : List Ty} {L L' : Lks} {R C : Option (St × Unit)}
/-- c are taken, a new reference is given -/
theorem Out.newR (h : Sm E sh n pk kt sl0 lim 1 zr zc H m ty fr nf na ak g Hc mc phi Rn cs cl cn ws) (fm : FM U ls (fr (nf - 1)) L) {c : Nat} {s : Sl} {q : SS} (hc : c ≤ L.1.1) (rk : rOk E H fr nf na ak (fun _ => none) s) (st : SlT H ty s) (s9 : s.2.1 ≠ 0) (hq : SMt U.2.2.2.1 s q) (hs : STy U.1.2.2 q.1) (hp : lPush q ((L.1.1 - c, L.1.2), L.2) = .ok L') (hg : g ≤ g') (er : R = some (zr', ())) (ec : C = some (zc', ())) (rm : RM sh n zr' H m (setF fr (nf - 1) (pshV (setH (fr (nf - 1)) ((fr (nf - 1)).2.2.1.1 - c)) s)) nf na ak g' lim) (cm : CM sh n zc' pk kt (upH Hc mc (8, 0, lN (phi s.1), [])) (mc + 1) sl0 (setF fr (nf - 1) (pshV (setH (fr (nf - 1)) ((fr (nf - 1)).2.2.1.1 - c)) s)) (up2 cs (nf - 1) ((fr (nf - 1)).2.2.1.1 - c) mc) cl nf g' lim) (f1 : FrR zr zr') (f2 : FrD zc zc') : Out E sh n pk kt sl0 lim zr zc fr nf na ak g ws U ls L' (fun i => i = (fr (nf - 1)).1.2.2) R C := by
  have h' := h
  have rr := h.rooms
  obtain ⟨I, _, cm0, cj, r, sr, an, na2, rn, rm1, rm2⟩ := h
  have nomc : ∀ x d k t c, Vs fr cs cl nf x d k = some (t, c) → t.2.1 ≠ 0 → c ≠ mc := fun x d k t c w z ww => by
    have sl := sr.1 _ _ _ _ _ w
    have al : (Hc c).1 ≠ 0 := by rw [(r.2.2.1 _ _ (sl.2 z)).1]; simp
    have := h'.hcu _ al
    omega
  refine ⟨zr', zc', er, ec, f1, f2.x, .inr ⟨H, m, ty, _, na, ak, g', _, mc + 1, phi, _, _, cl, cn, ⟨I.prV c rk st s9, rm, cm, cj.fd f2, (r.ref cm0.2.1 (by omega) s.1).2, ?_, an, na2, fun j t w => ?_, by omega, by omega⟩, AkL.same (by omega), rfl, rfl, rfl, (fm.drop c).psh hp hq hs⟩⟩
  · refine sr.psh h'.nf0 (by omega) (fun x d k t c w _ _ => ?_) ⟨fun z => absurd z s9, fun _ => by simp⟩ (fun _ x d k t w z => absurd rfl (nomc _ _ _ _ _ w z))
    have sl := sr.1 _ _ _ _ _ w
    exact ⟨sl.1, fun z => by simp only [if_neg (nomc _ _ _ _ _ w z)]; exact sl.2 z⟩
  · by_cases k : j = mc
    · simp only [if_pos k, Option.some.injEq] at w
      rw [← w]; exact (I.2.1.2 _ st.1).1
    · simp only [if_neg k] at w
      exact rn j t w
end
