/-! BOTH MACHINES SIDE BY SIDE: locals -/
section
variable {fr : Nat → Fm} {cs cl : Nat → Nat → Nat} {nf : Nat} {phi phi' : Nat → Nat} {Rn Rn' : Nat → Option Nat}
/-- a local goes to the stack -/
theorem SRel.mov (h : SRel phi Rn (Vs fr cs cl nf)) (n0 : 0 < nf) {k : Nat} {s : Sl} (hk : (fr (nf - 1)).2.1 k = some s) : SRel phi Rn (Vs (setF fr (nf - 1) (pshV (setLo (fr (nf - 1)) k none) s)) (up2 cs (nf - 1) (fr (nf - 1)).2.2.1.1 (cl (nf - 1) k)) (up2 cl (nf - 1) k 0) nf) := by
  have V := Vs_1 (fr := fr) (cs := cs) (cl := cl) (nf := nf) (d := nf - 1) (by omega) hk
  refine h.relay (fun x d j => if x = 1 ∧ d = nf - 1 ∧ j = k then (0, nf - 1, (fr (nf - 1)).2.2.1.1) else (x, d, j)) (0, nf, 0) (fun x d j t c q => ?_)
  rcases Vs_t (cs := cs) (cl := cl) (fun d k hd => ⟨by simp [up2, hd], by simp [up2, hd]⟩) q with ⟨q1, q2⟩ | ⟨q1, q2, q3⟩
  · exact ⟨h.1 _ _ _ _ _ q2, fun r => Or.inl ⟨x, d, j, t, q2, r, by simp [q1]⟩⟩
  · subst q1
    rcases q3 with ⟨a1, a2, a3, a4⟩ | ⟨a1, a2, a3⟩
    · subst a1
      have a2' : j < (fr (nf - 1)).2.2.1.1 + 1 := a2
      by_cases ck : j = (fr (nf - 1)).2.2.1.1
      · have e1 : t = s := by rw [a3]; simp [pshV, setN, setLo, ck]
        have e2 : c = cl (nf - 1) k := by rw [a4]; simp [up2, ck]
        rw [e1, e2]
        exact ⟨h.1 _ _ _ _ _ V, fun r => Or.inl ⟨1, nf - 1, k, s, V, r, by simp [ck]⟩⟩
      · have kl : j < (fr (nf - 1)).2.2.1.1 := by omega
        have e1 : t = (fr (nf - 1)).2.2.1.2 j := by rw [a3]; simp [pshV, setN, setLo, kl]
        have e2 : c = cs (nf - 1) j := by rw [a4]; simp [up2, ck]
        have V0 : Vs fr cs cl nf 0 (nf - 1) j = some (t, c) := by rw [Vs_0 q2 kl, e1, e2]
        exact ⟨h.1 _ _ _ _ _ V0, fun r => Or.inl ⟨0, nf - 1, j, t, V0, r, by simp⟩⟩
    · subst a1
      have a2' : (if j = k then none else (fr (nf - 1)).2.1 j) = some t := a2
      by_cases ck : j = k
      · rw [if_pos ck] at a2'; exact absurd a2' (by simp)
      · rw [if_neg ck] at a2'
        have e2 : c = cl (nf - 1) j := by rw [a3]; simp [up2, ck]
        have V1 : Vs fr cs cl nf 1 (nf - 1) j = some (t, c) := by rw [Vs_1 q2 a2', e2]
        exact ⟨h.1 _ _ _ _ _ V1, fun r => Or.inl ⟨1, nf - 1, j, t, V1, r, by simp [ck]⟩⟩
/-- the topmost goes to a local -/
theorem SRel.sto (h : SRel phi Rn (Vs fr cs cl nf)) (n0 : 0 < nf) {k : Nat} (h1 : 1 ≤ (fr (nf - 1)).2.2.1.1) : SRel phi Rn (Vs (setF fr (nf - 1) (setLo (setH (fr (nf - 1)) ((fr (nf - 1)).2.2.1.1 - 1)) k (some ((fr (nf - 1)).2.2.1.2 ((fr (nf - 1)).2.2.1.1 - 1))))) cs (up2 cl (nf - 1) k (cs (nf - 1) ((fr (nf - 1)).2.2.1.1 - 1))) nf) := by
  have V := Vs_0 (fr := fr) (cs := cs) (cl := cl) (nf := nf) (d := nf - 1) (k := (fr (nf - 1)).2.2.1.1 - 1) (by omega) (by omega)
  refine h.relay (fun x d j => if x = 0 ∧ d = nf - 1 ∧ j = (fr (nf - 1)).2.2.1.1 - 1 then (1, nf - 1, k) else (x, d, j)) (0, nf, 0) (fun x d j t c q => ?_)
  rcases Vs_t (cs := cs) (cl := cl) (fun d k hd => ⟨rfl, by simp [up2, hd]⟩) q with ⟨q1, q2⟩ | ⟨q1, q2, q3⟩
  · exact ⟨h.1 _ _ _ _ _ q2, fun r => Or.inl ⟨x, d, j, t, q2, r, by simp [q1]⟩⟩
  · subst q1
    rcases q3 with ⟨a1, a2, a3, a4⟩ | ⟨a1, a2, a3⟩
    · subst a1
      have kl : j < (fr (nf - 1)).2.2.1.1 - 1 := a2
      have V0 : Vs fr cs cl nf 0 (nf - 1) j = some (t, c) := by rw [Vs_0 q2 (by omega), a3, a4]; rfl
      exact ⟨h.1 _ _ _ _ _ V0, fun r => Or.inl ⟨0, nf - 1, j, t, V0, r, by simp [show j ≠ (fr (nf - 1)).2.2.1.1 - 1 by omega]⟩⟩
    · subst a1
      have a2' : (if j = k then some ((fr (nf - 1)).2.2.1.2 ((fr (nf - 1)).2.2.1.1 - 1)) else (fr (nf - 1)).2.1 j) = some t := a2
      by_cases ck : j = k
      · rw [if_pos ck] at a2'
        have e1 : t = (fr (nf - 1)).2.2.1.2 ((fr (nf - 1)).2.2.1.1 - 1) := by simpa using a2'.symm
        have e2 : c = cs (nf - 1) ((fr (nf - 1)).2.2.1.1 - 1) := by rw [a3]; simp [up2, ck]
        rw [e1, e2]
        exact ⟨h.1 _ _ _ _ _ V, fun r => Or.inl ⟨0, nf - 1, _, _, V, r, by simp [ck]⟩⟩
      · rw [if_neg ck] at a2'
        have e2 : c = cl (nf - 1) j := by rw [a3]; simp [up2, ck]
        have V1 : Vs fr cs cl nf 1 (nf - 1) j = some (t, c) := by rw [Vs_1 q2 a2', e2]
        exact ⟨h.1 _ _ _ _ _ V1, fun r => Or.inl ⟨1, nf - 1, j, t, V1, r, by simp⟩⟩
end
section
variable {U : Md} {ls : List Ty} {x : Fm} {L L' : Lks}
theorem FM.no (h : FM U ls x L) (k : Nat) : FM U ls (setLo x k none) (lSetL L k false 0 false) := by
  obtain ⟨h1, h2, h3, h4, h5⟩ := h
  refine ⟨h1, h2, h3, fun j hj => ?_, fun j hj => ?_⟩
  · simp only [setLo, lSetL]
    by_cases c : j = k
    · simp only [if_pos c]
      exact ⟨fun q => absurd q (by simp), fun _ s q => absurd q (by simp)⟩
    · simp only [if_neg c]
      exact h4 j hj
  · simp only [setLo]
    by_cases c : j = k
    · rw [if_pos c]
    · rw [if_neg c]; exact h5 j hj
theorem FM.yes (h : FM U ls x L) {k : Nat} (hk : k < ls.length) {s : Sl} {o : Int64} {i : Bool} (hs : SMt U.2.2.2.1 s (ls.getD k [], o, i)) : FM U ls (setLo x k (some s)) (lSetL L k true o i) := by
  obtain ⟨h1, h2, h3, h4, h5⟩ := h
  refine ⟨h1, h2, h3, fun j hj => ?_, fun j hj => ?_⟩
  · simp only [setLo, lSetL]
    by_cases c : j = k
    · simp only [if_pos c]
      subst c
      exact ⟨fun _ => ⟨s, rfl, hs⟩, fun q => absurd q (by simp)⟩
    · simp only [if_neg c]
      exact h4 j hj
  · simp only [setLo]
    rw [if_neg (by omega)]; exact h5 j hj
theorem SMt.pl0 {id : Nat → Nat} {s : Sl} {q : SS} (h : SMt id s q) (z : s.2.1 = 0) : isR q.1 = false := by
  by_cases c : isR q.1 = true
  · have e := h.1
    rw [sR, if_pos c, z] at e
    unfold isR at c
    simp only [Bool.or_eq_true, beq_iff_eq] at c
    omega
  · simpa using c
theorem SMt.rO {id : Nat → Nat} {s : Sl} {t : Ty} {o : Int64} {i : Bool} (h : SMt id s (t, o, i)) : SMt id s (t, rO t o, rI t i) := by
  obtain ⟨h1, h2, h3⟩ := h
  refine ⟨h1, h2, fun q => ?_⟩
  obtain ⟨a, b⟩ := h3 q
  have q' : isR t = true := q
  show s.2.2.2.1 = _root_.id (if isR t then o else 0) ∧ s.2.2.2.2 = (isR t && i)
  rw [q']
  exact ⟨a, by simpa using b⟩
end
section
variable {E : Ev} {F n : Nat} {sh : Nat → Nat × Nat} {pk : Nat → Nat} {kt : Nat} {sl0 : Int32} {lim e : Nat} {zr zc zr' zc' : St} {H : Hp} {m : Nat} {ty : Nat → Nat} {fr : Nat → Fm} {nf na : Nat} {ak : Nat → Ask} {g g' : Nat} {Hc : Hp} {mc : Nat} {phi : Nat → Nat} {Rn : Nat → Option Nat} {cs cl : Nat → Nat → Nat} {cn : Nat → Nat} {ws : Nat → Int64 → Nat → Bool} {u : Nat} {U : Md} {ls : List Ty} {L L' : Lks} {R C : Option (St × Unit)}
/-- a local that is there -/
theorem Sm.loc (h : Sm E sh n pk kt sl0 lim e zr zc H m ty fr nf na ak g Hc mc phi Rn cs cl cn ws) {k : Nat} {s : Sl} (hk : (fr (nf - 1)).2.1 k = some s) : k < 40 ∧ (H s.1).1 ≠ 0 ∧ s.1 < m ∧ ty s.1 = s.2.2.1 ∧ (s.2.1 = 0 → cl (nf - 1) k = phi s.1) ∧ (s.2.1 ≠ 0 → Rn (cl (nf - 1) k) = some s.1 ∧ Hc (cl (nf - 1) k) = (8, 0, lN (phi s.1), [])) := by
  have n0 := h.nf0
  have V := Vs_1 (fr := fr) (cs := cs) (cl := cl) (nf := nf) (d := nf - 1) (by omega) hk
  have s1 := h.slot V
  have s2 := h.2.2.2.2.2.1.1 _ _ _ _ _ V
  exact ⟨((h.1.2.2.1 (nf - 1) (by omega)).2.1 k s hk).1, s1.1, s1.2.1, s1.2.2, s2.1, fun z => ⟨s2.2 z, (h.2.2.2.2.1.2.2.1 _ _ (s2.2 z)).1⟩⟩
/-- a local's class node -/
theorem Sm.locN (h : Sm E sh n pk kt sl0 lim e zr zc H m ty fr nf na ak g Hc mc phi Rn cs cl cn ws) {k : Nat} {s : Sl} (hk : (fr (nf - 1)).2.1 k = some s) (h11 : s.2.1 = 0 → s.2.2.1 ≠ 11) : 0 < cl (nf - 1) k ∧ cl (nf - 1) k < 2 ^ 31 := by
  obtain ⟨_, l1, l2, l3, l4, l5⟩ := h.loc hk
  have al : (Hc (cl (nf - 1) k)).1 ≠ 0 := by
    by_cases z : s.2.1 = 0
    · rw [l4 z]; exact h.2.2.2.2.1.al l1 (by rw [l3]; exact h11 z)
    · rw [(l5 z).2]; simp
  have := h.2.2.1.2.1.lt al
  omega
/-- 12 -/
theorem sim_12 (h : Sm E sh n pk kt sl0 lim 1 zr zc H m ty fr nf na ak g Hc mc phi Rn cs cl cn ws) (fm : FM U ls (fr (nf - 1)) L) {a : Nat} (ha : a < ls.length) (hs : STy U.1.2.2 (ls.getD a [])) (h1 : L.2.1 a = true) (hpt : isR (ls.getD a []) = false → lPt ls L a false = false) {M : Lks} (hp : lPush (ls.getD a [], rO (ls.getD a []) (L.2.2.1 a), rI (ls.getD a []) (L.2.2.2 a)) L = .ok M) : Out E sh n pk kt sl0 lim zr zc fr nf na ak g ws U ls (lSetL M a false 0 false) (fun i => i = (fr (nf - 1)).1.2.2) (fn_X18_onLocal F sh n zr 337 12 (nI a)) (fn_X4_useLocal F sh n zc 87 12 (nI ((nf - 1) * 40 + a))) := by
  have h64 : (fr (nf - 1)).2.2.1.1 < 64 := by have := (push_ok hp).1; rw [fm.1]; exact this
  obtain ⟨s, e1, e2⟩ := (fm.2.2.2.1 a ha).1 h1
  obtain ⟨l0, l1, l2, l3, l4, l5⟩ := h.loc e1
  have e11 : s.2.1 = 0 → s.2.2.1 ≠ 11 := fun z => by
    have r0 : isR (ls.getD a []) = false := e2.pl0 z
    rw [e2.2.1]; exact sT_n11 (hs.pl r0)
  obtain ⟨c1, c2⟩ := h.locN e1 e11
  obtain ⟨z1, q1, q2, q3⟩ := h.2.1.move (F := F) l0 e1 l1 h64
  obtain ⟨z2, d1, d2, d3⟩ := h.2.2.1.move (F := F) (s' := s) l0 e1 c1 c2 h64
  have fm' : FM U ls (pshV (setLo (fr (nf - 1)) a none) s) (lSetL M a false 0 false) := by
    have := (fm.psh hp e2.rO hs).no a
    exact this
  have h' := h
  obtain ⟨I, _, cm0, cj, r, sr, an, na2, rn, rm1, rm2⟩ := h
  refine ⟨z1, z2, q1, d1, q3, d3.x, .inr ⟨H, m, ty, _, na, ak, g, Hc, mc, phi, Rn, _, _, cn, ⟨I.mov e1 (fun z q hq => ?_), q2, d2, cj.fc d3, r, sr.mov h'.nf0 e1, an, na2, rn, by omega, by omega⟩, AkL.same (by omega), rfl, rfl, rfl, fm'⟩⟩
  have r0 : isR (ls.getD a []) = false := e2.pl0 z
  have g0 : (fr (nf - 1)).2.2.2 = fun _ => none := funext (fun k => I.2.2.2.2.2.1 k h'.nf0)
  refine fm.pt (hpt r0) hq.2.1 ?_
  rcases hq.2.2 with w | w | ⟨k, w⟩
  · exact .inl w
  · exact .inr w
  · rw [g0] at w; exact absurd w (by simp)
end
