/-! BOTH MACHINES SIDE BY SIDE: copies of values; references 16 .. 20 -/
theorem hd0_rev {l : List Nat} {f : Nat → Nat} {i : Nat} (h : i < l.length) : hd0 (((l.map f).reverse).drop (((l.map f).reverse).length - 1 - i)) = f l[i] := by
  have e : (((l.map f).reverse).drop (((l.map f).reverse).length - 1 - i)) = ((l.map f).reverse)[((l.map f).reverse).length - 1 - i]'(by simp; omega) :: (((l.map f).reverse).drop (((l.map f).reverse).length - 1 - i + 1)) := List.drop_eq_getElem_cons (by simp; omega)
  rw [e, hd0_c, List.getElem_reverse]
  simp only [List.length_reverse, List.length_map, List.getElem_map]
  congr 2
  omega
section
variable {F n : Nat} {sh : Nat → Nat × Nat} {z z' : St} {pk : Nat → Nat} {kt : Nat} {H : Hp} {m : Nat} {sl0 : Int32} {fr fr' : Nat → Fm} {cs cl : Nat → Nat → Nat} {nf g lim : Nat}
/-- what slots hold is not the class's -/
theorem CM.slots (h : CM sh n z pk kt H m sl0 fr cs cl nf g lim) (e : ∀ d, (fr' d).1 = (fr d).1 ∧ (fr' d).2.2.1.1 = (fr d).2.2.1.1 ∧ (fr' d).2.1 = (fr d).2.1) : CM sh n z pk kt H m sl0 fr' cs cl nf g lim := by
  obtain ⟨hL, hH, ⟨f1, f2, f3, f4⟩, hr⟩ := h
  refine ⟨hL, hH, ⟨f1, f2, f3, fun d hd => ?_⟩, hr⟩
  obtain ⟨e1, e2, e3⟩ := e d
  obtain ⟨b1, b2, b3, b4, b5, b6, b7⟩ := f4 d hd
  unfold CFd
  rw [e1, e2, e3]
  exact ⟨b1, b2, b3, b4, b5, b6, b7⟩
theorem up2_id {c : Nat → Nat → Nat} {d k : Nat} : up2 c d k (c d k) = c := by
  funext e j
  unfold up2
  by_cases q : e = d ∧ j = k
  · rw [if_pos q, q.1, q.2]
  · rw [if_neg q]
end
section
variable {F n : Nat} {sh : Nat → Nat × Nat} {z z' : St} {H : Hp} {m : Nat} {fr : Nat → Fm} {nf na : Nat} {ak : Nat → Ask} {g lim : Nat}
theorem RM.copyVE (hF : 300 ≤ F) (h : RM sh n z H m fr nf na ak g lim) {k d : Nat} {s : Sl} (hk : k < 40) (hs : (fr (nf - 1)).2.1 k = some s) (h0 : s.2.1 = 0) (tr : Tr H d s.1) (hd : d ≤ 48) (hm : szM H d s.1 ≤ 24576) (hg : lim < g + szM H d s.1) : ∃ z', fn_X18_onLocal F sh n z 337 11 (nI k) = some (z', ()) ∧ RE sh n z' 2 5 lim ∧ FrR z z' := by
  have hal : (H s.1).1 ≠ 0 := by
    cases d with
    | zero => exact absurd tr (by simp [Tr])
    | succ d => exact tr.1
  obtain ⟨l1, l2, l3, l4⟩ := h.loc (F := F) hk
  obtain ⟨l5, l6⟩ := l4 s hs
  rw [rB0 h0] at l6
  have nm : ¬ nI s.1 = -1 := nI_m1 (by have := (h.2.2.1.lt hal).2; omega)
  have sz := sizeM_t (F := F) hF h.1 h.2.2.1 d s.1 48 tr hd
  obtain ⟨z1, p1, p2, p3⟩ := h.spendE (F := F) hg (by omega)
  refine ⟨z1, ?_, p2, p3⟩
  unfold fn_X18_onLocal
  simp only [b_model h.1, grd_true, l1, cal_s, if_neg (show ¬ (11 : Int32) = 13 by decide), lnk_s, l2, l3, l5, if_neg nm]
  unfold fn_X18_onLocal_B106
  simp only [b_model h.1, grd_true, h.goes, cal_s, if_neg one0, ↓reduceIte, lnk_s, l2, l3, l5, l6, sz, p1]
theorem RM.readE (hF : 300 ≤ F) (h : RM sh n z H m fr nf na ak g lim) (h1 : 1 ≤ (fr (nf - 1)).2.2.1.1) (h0 : ((fr (nf - 1)).2.2.1.2 ((fr (nf - 1)).2.2.1.1 - 1)).2.1 ≠ 0) {d : Nat} {b : Int32} (tr : Tr H d ((fr (nf - 1)).2.2.1.2 ((fr (nf - 1)).2.2.1.1 - 1)).1) (hd : d ≤ 48) (hm : szM H d ((fr (nf - 1)).2.2.1.2 ((fr (nf - 1)).2.2.1.1 - 1)).1 ≤ 24576) (hg : lim < g + szM H d ((fr (nf - 1)).2.2.1.2 ((fr (nf - 1)).2.2.1.1 - 1)).1) : ∃ z', fn_X18_onReference F sh n z 337 18 b = some (z', ()) ∧ RE sh n z' 2 5 lim ∧ FrR z z' := by
  obtain ⟨z1, p1, p2, p3⟩ := h.takeR (F := F) h1 h0
  have sz := sizeM_t (F := F) hF p2.1 p2.2.2.1 d _ 48 tr hd
  have n20 : ¬ (18 : Int32) = 20 := by decide
  obtain ⟨z2, s1, s2, s3⟩ := p2.spendE (F := F) hg (by omega)
  refine ⟨z2, ?_, s2, p3.trans s3⟩
  unfold fn_X18_onReference
  simp only [b_model h.1, b_model p2.1, grd_true, p1, cal_s, p2.goes, if_neg one0, if_neg n20, ↓reduceIte, lnk_s, sz, s1]
end
section
variable {F n : Nat} {sh : Nat → Nat × Nat} {z z' : St} {pk : Nat → Nat} {kt : Nat} {H : Hp} {m : Nat} {sl0 : Int32} {fr : Nat → Fm} {cs cl : Nat → Nat → Nat} {nf g lim : Nat}
theorem CM.copyE (hF : 300 ≤ F) (h : CM sh n z pk kt H m sl0 fr cs cl nf g lim) {d v : Nat} (t : Tr H d v) (hd : d ≤ 40) (hr : szA H d v ≤ 24576) (hg : lim < g + szA H d v) : ∃ z', fn_X4_pushCopy F sh n z 87 (nI v) = some (z', ()) ∧ CE sh n z' 2 5 lim sl0 ∧ FrC z z' := by
  have sz := sizeOf_t (F := F) hF h.1 h.2.1 t hd
  have sq := szB_q (H := H) d v
  have sb := szB_b (H := H) d v
  have l20 := h.2.2.2.2.2.2.2
  unfold Szq at sq
  obtain ⟨z1, p1, p2, p3⟩ := h.payE (F := F) (c := szB H d v) (by omega) (by omega)
  refine ⟨z1, ?_, p2, p3⟩
  unfold fn_X4_pushCopy
  rw [(b_mach h.1).1, grd_true, h.1.2.2 87 1 88 rfl, lnk_s, (b_heap h.1).1, grd_true, sz, cal_s, p1, cal_s, if_pos rfl]
end
section
variable {E : Ev} {F n : Nat} {sh : Nat → Nat × Nat} {pk : Nat → Nat} {kt : Nat} {sl0 : Int32} {lim e : Nat} {zr zc zr' zc' : St} {H : Hp} {m : Nat} {ty : Nat → Nat} {fr : Nat → Fm} {nf na : Nat} {ak : Nat → Ask} {g g' : Nat} {Hc : Hp} {mc : Nat} {phi : Nat → Nat} {Rn : Nat → Option Nat} {cs cl : Nat → Nat → Nat} {cn : Nat → Nat} {ws : Nat → Int64 → Nat → Bool} {u : Nat} {U : Md} {ls : List Ty} {L L' : Lks} {R C : Option (St × Unit)}
/-- c are taken, a copy of v is given -/
theorem Out.cpy (h : Sm E sh n pk kt sl0 lim 1 zr zc H m ty fr nf na ak g Hc mc phi Rn cs cl cn ws) (hE : EvOk E) (hA : EvA E) (fm : FM U ls (fr (nf - 1)) L) {c d dc v : Nat} {q : SS} {H' : Hp} {u' : Nat} {o : Nat → Nat} {z1 z2 : St} {Hx : Hp} {u'' : Nat} {oc : Nat → Nat} (hc : c ≤ L.1.1) (hv : (H v).1 ≠ 0) (h11 : ty v ≠ 11) (cp : CpM H m d v H' u' o) (hsz : 1 ≤ szM H d v) (cr : CpR z1 Hc mc sl0 dc (phi v) z2 Hx u'' oc) (esz : szA Hc dc (phi v) = szM H d v) (hnc : NCl E (ty v)) (hq : SMt U.2.2.2.1 (m, 0, ty v, 0, false) q) (hs : STy U.1.2.2 q.1) (hp : lPush q ((L.1.1 - c, L.1.2), L.2) = .ok L') (er : R = some (zr', ())) (ec : C = some (zc', ())) (rm : RM sh n zr' H' u' (setF fr (nf - 1) (pshV (setH (fr (nf - 1)) ((fr (nf - 1)).2.2.1.1 - c)) (m, 0, ty v, 0, false))) nf na ak (g + szM H d v) lim) (cm : CM sh n zc' pk kt Hx u'' sl0 (setF fr (nf - 1) (pshV (setH (fr (nf - 1)) ((fr (nf - 1)).2.2.1.1 - c)) (m, 0, ty v, 0, false))) (up2 cs (nf - 1) ((fr (nf - 1)).2.2.1.1 - c) mc) cl nf (g + szM H d v) lim) (er2 : ∀ k, 88 ≤ k → k ≤ 92 → zc'.1 k = z2.1 k ∧ zc'.2.1 k = z2.2.1 k) (f1 : FrR zr zr') (f2 : FrD zc zc') : Out E sh n pk kt sl0 lim zr zc fr nf na ak g ws U ls L' (fun i => i = (fr (nf - 1)).1.2.2) R C := by
  have h' := h
  obtain ⟨I, _, cm0, cj, r, sr, an, na2, rn, rm1, rm2⟩ := h
  obtain ⟨phi', Hn, hcn, rc, pe, pm⟩ := r.copy I.2.1 hA na2 rn cp hsz h11 h'.hcu cr
  have u1 : u' = m + szM H d v := cp.1
  have u2 : u'' ≤ mc + szM H d v := by rw [← esz]; exact cr.2.2.1
  obtain ⟨w1, _⟩ := cm.heap (z' := zc') Fr.rfl' (hcn.mv er2)
  refine ⟨zr', zc', er, ec, f1, f2.x, .inr ⟨H', u', _, _, na, ak, _, Hn, u'', phi', Rn, _, cl, cn, ⟨I.cpy hE c cp hsz hnc, rm, w1, cj.fd f2, rc, ?_, ?_, ?_, fun j t w => by have := rn j t w; omega, by omega, by omega⟩, AkL.same (by omega), rfl, rfl, rfl, (fm.drop c).psh hp hq hs⟩⟩
  · refine sr.psh h'.nf0 (by have := fm.1; omega) (fun x d k t c w _ _ => ?_) ⟨fun _ => pm.symm, fun q => absurd rfl q⟩ (fun q => absurd rfl q)
    have hs := h'.slot w
    have sl := sr.1 _ _ _ _ _ w
    exact ⟨fun z => by rw [pe _ hs.2.1]; exact sl.1 z, sl.2⟩
  · intro j hj h3 ht2
    have al := (I.2.2.2.2.1 j hj h3 ht2).1
    rw [pe _ (I.2.1.2 _ al).1]
    exact an j hj h3 ht2
  · intro w hw
    by_cases k : w < m
    · simp only [if_pos k]
      rw [cp.2.1 w k] at hw
      exact na2 w hw
    · simp only [if_neg k]
      have wu : w < u' := by
        by_cases q : w < u'
        · exact q
        · rw [cp.2.2.1 w (by omega)] at hw; exact absurd rfl hw
      exact na2 _ (cp.2.2.2.2.1 w (by omega) wu).1
/-- 11, a value -/
theorem sim_11v (hF : 300 ≤ F) (h : Sm E sh n pk kt sl0 lim 1 zr zc H m ty fr nf na ak g Hc mc phi Rn cs cl cn ws) (hE : EvOk E) (hA : EvA E) (fm : FM U ls (fr (nf - 1)) L) {a : Nat} (ha : a < ls.length) (hs : PT U.1.2.2 (ls.getD a [])) (hnc : NCl E (sT U.2.2.2.1 (ls.getD a []))) (h1 : L.2.1 a = true) (hp : lPush (ls.getD a [], 0, false) L = .ok L') : Out E sh n pk kt sl0 lim zr zc fr nf na ak g ws U ls L' (fun i => i = (fr (nf - 1)).1.2.2) (fn_X18_onLocal F sh n zr 337 11 (nI a)) (fn_X4_useLocal F sh n zc 87 11 (nI ((nf - 1) * 40 + a))) := by
  obtain ⟨rr1, rr2⟩ := h.rooms
  have h64 : (fr (nf - 1)).2.2.1.1 < 64 := by have := (push_ok hp).1; rw [fm.1]; exact this
  obtain ⟨s, e1, e2⟩ := (fm.2.2.2.1 a ha).1 h1
  obtain ⟨l0, l1, l2, l3, l4, l5⟩ := h.loc e1
  have z0 : s.2.1 = 0 := by rw [e2.1]; exact sR_p hs
  have et : ty s.1 = sT U.2.2.2.1 (ls.getD a []) := by rw [l3]; exact e2.2.1
  have n11 : ty s.1 ≠ 11 := by rw [et]; exact sT_n11 hs
  obtain ⟨c1, c2⟩ := h.locN e1 (fun _ => by rw [← l3]; exact n11)
  obtain ⟨o1, o2⟩ := h.2.2.1.lv l0
  have n0 := h.nf0
  have rv := ((h.2.2.1.2.2.1.2.2.2 (nf - 1) (by omega)).2.2.2.2.2.2.1 a s e1).2
  have E0 : fn_X4_useLocal F sh n zc 87 11 (nI ((nf - 1) * 40 + a)) = fn_X4_pushCopy F sh n zc 87 (nI (cl (nf - 1) a)) := by
    unfold fn_X4_useLocal
    rw [if_neg (by decide), (b_mach h.2.2.1.1).1, grd_true, h.2.2.1.1.2.2 87 10 102 rfl, lnk_s, o1, grd_true, o2, lt_t, rv, if_neg (nI_ne0 c1 c2)]
    unfold fn_X4_useLocal_B41
    rw [if_pos rfl, cal_u]
  have t0 := h.ht.tr39 hE l1
  have tc := h.2.2.2.2.1.tr hA h.2.2.2.2.2.2.2.1 h.ht 39 _ t0 n11
  have zs := szM_le (d := 39) hE h.ht h.pu l1
  have sm : SMt U.2.2.2.1 (m, 0, ty s.1, 0, false) (ls.getD a [], 0, false) := ⟨(sR_p hs).symm, et, fun q => absurd (hs.hd.2.symm.trans q) (by decide)⟩
  rw [E0, l4 z0]
  by_cases c : g + szM H 39 s.1 ≤ lim
  · have lim2 := h.2.2.1.2.2.2.2.2.2.2
    have n24 := h.2.2.2.1.2.1
    have b1 := h.2.2.2.2.2.2.2.2.2.1
    have b2 := h.2.2.2.2.2.2.2.2.2.2
    obtain ⟨z1, H', u', o, q1, q2, q3, q4⟩ := (h.2.1.copyV (F := F) hF h.pu h.ht.1 l0 e1 z0 t0 (by omega) (by omega) h64 (t := ty s.1)).1 c
    obtain ⟨z3, z4, z5, Hx, ux, ox, d1, d2, d3, d4, d5⟩ := h.2.2.1.copyX (F := F) hF tc.1 (by omega) (by rw [tc.2]; omega) h64 (m, 0, ty s.1, 0, false) (by rw [tc.2]; exact c)
    rw [tc.2] at d3
    exact Out.cpy h hE hA fm (c := 0) (by omega) l1 n11 q2 (szM_pos t0) d2 tc.2 (by rw [et]; exact hnc) sm (.inl hs) hp q1 d1 q3 d3 d5 q4 d4.d
  · obtain ⟨z1, q1, q2, q3⟩ := h.2.1.copyVE (F := F) hF l0 e1 z0 t0 (by omega) (by omega) (by omega)
    obtain ⟨z2, d1, d2, d3⟩ := h.2.2.1.copyE (F := F) hF tc.1 (by omega) (by rw [tc.2]; omega) (by rw [tc.2]; omega)
    exact Out.end 2 5 lim (.inr rfl) q1 d1 q2 d2 q3 d3.x
end
