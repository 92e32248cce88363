/-! BOTH MACHINES SIDE BY SIDE: fields, writing -/
section
variable {E : Ev} {F n : Nat} {sh : Nat → Nat × Nat} {pk : Nat → Nat} {kt : Nat} {sl0 : Int32} {lim e : Nat} {zr zc zr' zc' : St} {H : Hp} {m : Nat} {ty : Nat → Nat} {fr : Nat → Fm} {nf na : Nat} {ak : Nat → Ask} {g g' : Nat} {Hc : Hp} {mc : Nat} {phi : Nat → Nat} {Rn : Nat → Option Nat} {cs cl : Nat → Nat → Nat} {cn : Nat → Nat} {ws : Nat → Int64 → Nat → Bool} {u : Nat} {U : Md} {ls : List Ty} {L L' : Lks} {R C : Option (St × Unit)}
/-- the class's node of a tree that is no coin -/
theorem Sm.nd (h : Sm E sh n pk kt sl0 lim e zr zc H m ty fr nf na ak g Hc mc phi Rn cs cl cn ws) {v : Nat} (hv : (H v).1 ≠ 0) (h11 : ty v ≠ 11) (h256 : ty v ≠ 256) : (Hc (phi v)).1 = (H v).1 ∧ (Hc (phi v)).2.2.2 = ((kds H v).map phi).reverse ∧ (Hc (phi v)).2.2.2.length = (kds H v).length := by
  rcases h.2.2.2.2.1.1 v hv h11 with ⟨c1, _⟩ | ⟨_, c2, c3, _⟩
  · exact absurd c1 h256
  · exact ⟨c2, c3, by rw [c3]; simp⟩
/-- a structure of this module's own -/
theorem Sm.str (h : Sm E sh n pk kt sl0 lim e zr zc H m ty fr nf na ak g Hc mc phi Rn cs cl cn ws) (hU : UOk E u U) {v a : Nat} (hv : (H v).1 ≠ 0) (ha : a < U.1.2.1) (et : ty v = 256 + U.2.2.2.1 a) : (H v).1 = 6 ∧ (H v).2.1 = 0 ∧ (H v).2.2.1 = lN (U.2.2.2.1 a) ∧ (kds H v).map ty = (fdsOf U a).map (sT U.2.2.2.1) ∧ (kds H v).length = (fdsOf U a).length := by
  obtain ⟨u1, u2, u3, u4, u5, u6, u7⟩ := hU.2.2.1 a ha
  have lt := (h.ht.2 v hv).2.1
  rw [et] at lt
  rcases lt with q | q | q | q | q | q | q | q
  · omega
  · omega
  · omega
  · omega
  · omega
  · omega
  · obtain ⟨_, _, q3, q4, q5, q6, _⟩ := q
    rw [Nat.add_sub_cancel_left] at q5 q6
    rw [u3] at q6
    exact ⟨q3, q4, q5, q6, by have := congrArg List.length q6; simpa using this⟩
  · omega
/-- 16, 17 -/
theorem sim_1617 (hF : 300 ≤ F) (h : Sm E sh n pk kt sl0 lim 1 zr zc H m ty fr nf na ak g Hc mc phi Rn cs cl cn ws) (hU : UOk E u U) (fm : FM U ls (fr (nf - 1)) L) {o r a b : Nat} (ho : o = 16 ∨ o = 17) (h1 : 1 ≤ L.1.1) (hr : r = 8 ∨ r = 9) (h9 : o = 17 → r = 9) (t : (L.1.2 (L.1.1 - 1)).1 = r :: [6, a]) (ha : a < U.1.2.1) (hb : b < (fdsOf U a).length) (hp : lPush ((if o = 17 then 9 else 8) :: (fdsOf U a).getD b [], (L.1.2 (L.1.1 - 1)).2.1, true) ((L.1.1 - 1, L.1.2), L.2) = .ok L') : Out E sh n pk kt sl0 lim zr zc fr nf na ak g ws U ls L' (fun i => i = (fr (nf - 1)).1.2.2) (fn_X18_onReference F sh n zr 337 (nI o) (nI b)) (fn_X4_refer F sh n zc 87 (nI o) (nI b)) := by
  obtain ⟨rr1, rr2⟩ := h.rooms
  have hh := fm.1
  have h64 := h.h64
  obtain ⟨u1, u2, u3, u4, u5, u6, u7⟩ := hU.2.2.1 a ha
  have pt : PT U.1.2.2 [6, a] := PT_s (by have := hU.2.2.2.2.2.1; omega)
  obtain ⟨a1, a2, a3, a4, a5, a6, a7, a8, a9, a10, a11, a12⟩ := h.rft fm (i := 1) (by omega) h1 hr t pt
  rw [sT_s] at a5
  obtain ⟨s1, s2, s3, s4, s5⟩ := h.str hU a4 ha a5
  have hb' : b < (kds H ((fr (nf - 1)).2.2.1.2 ((fr (nf - 1)).2.2.1.1 - 1)).1).length := by rw [s5]; exact hb
  obtain ⟨n1, n2, n3⟩ := h.nd a4 (by rw [a5]; omega) (by rw [a5]; omega)
  have hr' : (if o = 17 then 9 else 8) = 8 ∨ (if o = 17 then 9 else 8) = 9 := by split <;> simp
  have r0 : (if o = 17 then 9 else 8) ≠ 0 := by split <;> simp
  have ck : (H (kds H ((fr (nf - 1)).2.2.1.2 ((fr (nf - 1)).2.2.1.1 - 1)).1)[b]).1 ≠ 0 := (h.ht.2 _ a4).2.2.1 _ (List.getElem_mem hb')
  have fb : (fdsOf U a).getD b [] = (fdsOf U a)[b] := by simp [List.getD, hb]
  have pf : PT U.1.2.2 (fdsOf U a)[b] := u4 _ (List.getElem_mem hb)
  have ckt : ty (kds H ((fr (nf - 1)).2.2.1.2 ((fr (nf - 1)).2.2.1.1 - 1)).1)[b] = sT U.2.2.2.1 (fdsOf U a)[b] := by
    have e1 : ((kds H ((fr (nf - 1)).2.2.1.2 ((fr (nf - 1)).2.2.1.1 - 1)).1).map ty)[b]? = ((fdsOf U a).map (sT U.2.2.2.1))[b]? := by rw [s4]
    rw [List.getElem?_map, List.getElem?_map, List.getElem?_eq_getElem hb', List.getElem?_eq_getElem hb] at e1
    simpa using e1
  have cal := h.2.2.2.2.1.al ck (by rw [ckt]; exact sT_n11 pf)
  have clt := h.2.2.1.2.1.lt cal
  obtain ⟨z1, q1, q2, q3⟩ := h.2.1.ref16 (F := F) hF (by omega) h64 a2 ho a4 hb' ((kds H ((fr (nf - 1)).2.2.1.2 ((fr (nf - 1)).2.2.1.1 - 1)).1)[b], if o = 17 then 9 else 8, sT U.2.2.2.1 (fdsOf U a)[b], (L.1.2 (L.1.1 - 1)).2.1, true) rfl r0
  have hd : hd0 ((Hc (phi ((fr (nf - 1)).2.2.1.2 ((fr (nf - 1)).2.2.1.1 - 1)).1)).2.2.2.drop ((Hc (phi ((fr (nf - 1)).2.2.1.2 ((fr (nf - 1)).2.2.1.1 - 1)).1)).2.2.2.length - 1 - b)) = phi (kds H ((fr (nf - 1)).2.2.1.2 ((fr (nf - 1)).2.2.1.1 - 1)).1)[b] := by rw [n2]; exact hd0_rev hb'
  obtain ⟨z2, d1, d2, d3⟩ := h.2.2.1.field (F := F) hF (by omega) ho rfl (by rw [a6]) (by rw [a6]) a8 a9 a7 (by rw [n1, s1]; unfold inn; omega) (by rw [n3, s5]; exact hb) (by omega) hd (by omega) h64 (fun z1 hz => (h.2.2.2.2.1.point hz a3 _).1) ((kds H ((fr (nf - 1)).2.2.1.2 ((fr (nf - 1)).2.2.1.1 - 1)).1)[b], if o = 17 then 9 else 8, sT U.2.2.2.1 (fdsOf U a)[b], (L.1.2 (L.1.1 - 1)).2.1, true)
  refine Out.point (q := ((if o = 17 then 9 else 8) :: (fdsOf U a).getD b [], (L.1.2 (L.1.1 - 1)).2.1, true)) (s := ((kds H ((fr (nf - 1)).2.2.1.2 ((fr (nf - 1)).2.2.1.1 - 1)).1)[b], if o = 17 then 9 else 8, sT U.2.2.2.1 (fdsOf U a)[b], (L.1.2 (L.1.1 - 1)).2.1, true)) h fm (c := 1) (k0 := (fr (nf - 1)).2.2.1.1 - 1) h1 (by omega) (Nat.le_refl _) a2 (h.1.rPart a10 (List.getElem_mem hb') (fun q => ?_) a11.symm rfl) ⟨ck, ckt, .inr hr'⟩ r0 ⟨(sR_c hr').symm, ?_, fun _ => ⟨rfl, rfl⟩⟩ (.inr ⟨_, _, hr', rfl, by rw [fb]; exact pf⟩) hp (Nat.le_refl _) q1 d1 q2 d2 q3 d3.d
  · rw [a1]
    have q' : (if o = 17 then 9 else 8) = 9 := q
    by_cases c : o = 17
    · exact h9 c
    · rw [if_neg c] at q'; exact absurd q' (by decide)
  · show sT U.2.2.2.1 (fdsOf U a)[b] = sT U.2.2.2.1 ((if o = 17 then 9 else 8) :: (fdsOf U a).getD b [])
    rw [fb, sT_c hr' pf]
/-- 19 -/
theorem sim_19 (h : Sm E sh n pk kt sl0 lim 1 zr zc H m ty fr nf na ak g Hc mc phi Rn cs cl cn ws) (hE : EvOk E) (hA : EvA E) (fm : FM U ls (fr (nf - 1)) L) {p : Ty} (h2 : 2 ≤ L.1.1) (t1 : (L.1.2 (L.1.1 - 1)).1 = 9 :: p) (t2 : (L.1.2 (L.1.1 - 2)).1 = p) (pt : PT U.1.2.2 p) (hso : lSole ls ((L.1.1 - 2, L.1.2), L.2) (L.1.2 (L.1.1 - 1)).2.1 = true) {b b' : Int32} : Out E sh n pk kt sl0 lim zr zc fr nf na ak g ws U ls ((L.1.1 - 2, L.1.2), L.2) (fun i => i = (fr (nf - 1)).1.2.2) (fn_X18_onReference F sh n zr 337 19 b) (fn_X4_refer F sh n zc 87 19 b') := by
  have hh := fm.1
  obtain ⟨a1, a2, a3, a4, a5, a6, a7, a8, a9, a10, a11, a12⟩ := h.rft fm (i := 1) (by omega) (by omega) (.inr rfl) t1 pt
  have s2 := fm.2.2.1 (L.1.1 - 2) (by omega)
  obtain ⟨b0, b1, b2, b3, b4⟩ := h.pl (k := (fr (nf - 1)).2.2.1.1 - 2) (by omega) (by rw [hh]; exact s2.1) (by rw [t2]; exact pt)
  rw [t2] at b3
  have n11 : ty ((fr (nf - 1)).2.2.1.2 ((fr (nf - 1)).2.2.1.1 - 2)).1 ≠ 11 := by rw [b3]; exact sT_n11 pt
  have stR : SlT H ty ((fr (nf - 1)).2.2.1.2 ((fr (nf - 1)).2.2.1.1 - 1)) := (h.1.2.2.1 (nf - 1) (by have := h.nf0; omega)).1 _ (by omega)
  have stV : SlT H ty ((fr (nf - 1)).2.2.1.2 ((fr (nf - 1)).2.2.1.1 - 2)) := (h.1.2.2.1 (nf - 1) (by have := h.nf0; omega)).1 _ (by omega)
  have sole : ∀ s, s.2.1 ≠ 0 → ((∃ k, k < (fr (nf - 1)).2.2.1.1 ∧ k ≠ (fr (nf - 1)).2.2.1.1 - 1 ∧ (fr (nf - 1)).2.2.1.2 k = s) ∨ ∃ k, (fr (nf - 1)).2.1 k = some s) → mt s.2.2.2.1 ((fr (nf - 1)).2.2.1.2 ((fr (nf - 1)).2.2.1.1 - 1)).2.2.2.1 → s.2.1 = 9 ∧ s.2.2.2.2 = false := fun s hs hq hm => by
    refine (fm.drop 2).sole hso hs ?_ (by rw [← a11]; exact hm)
    rcases hq with ⟨k, k1, k2, k3⟩ | w
    · by_cases c : k = (fr (nf - 1)).2.2.1.1 - 2
      · subst c; rw [k3] at b0; exact absurd b0 hs
      · exact .inl ⟨k, by show k < (fr (nf - 1)).2.2.1.1 - 2; omega, k3⟩
    · exact .inr w
  obtain ⟨I', ne⟩ := h.1.wr hE (by omega) a1 b0 (by rw [← stR.2.1, ← stV.2.1, a5, b3]) sole
  have V2 : LvA fr nf na ak (fun _ => none) 0 (nf - 1) ((fr (nf - 1)).2.2.1.1 - 2) = some ((fr (nf - 1)).2.2.1.2 ((fr (nf - 1)).2.2.1.1 - 2)).1 := by
    unfold LvA
    rw [if_pos rfl, if_pos ⟨by have := h.nf0; omega, by omega⟩, pln, if_pos b0]
  have rt := h.1.1.2.1 _ _ _ _ V2
  have ka := (h.ht.2 _ a4).2.1.kt.1
  have kb := (h.ht.2 _ b2).2.1.kt.1
  rw [a5] at ka
  rw [b3] at kb
  obtain ⟨z1, q1, q2, q3⟩ := h.2.1.wr (F := F) (by omega) a2 b0 a4 (by rw [ka, kb]) ne rt (b := b)
  have tyn := h.ht.tyn hA h.2.2.2.2.2.2.2.1
  have rtc := h.2.2.2.2.1.rt b2 n11 rt (fun w hw h256 c hc => ⟨tyn.1 w c hc, tyn.2 w hw h256 c hc⟩)
  have alv := h.2.2.2.2.1.al b2 n11
  have pne : phi ((fr (nf - 1)).2.2.1.2 ((fr (nf - 1)).2.2.1.1 - 1)).1 ≠ phi ((fr (nf - 1)).2.2.1.2 ((fr (nf - 1)).2.2.1.1 - 2)).1 := fun q => ne (h.2.2.2.2.1.2.1 _ _ a4 (by rw [a5]; exact sT_n11 pt) b2 n11 q)
  obtain ⟨z2, d1, d2, d3⟩ := h.2.2.1.wr (F := F) (by omega) rfl b1 (by rw [a6]) (by rw [a6]) a8 a9 a7 alv pne rtc (x1 := b')
  have h' := h
  obtain ⟨I, _, cm0, cj, r, sr, an, na2, rn, rm1, rm2⟩ := h
  refine ⟨z1, z2, q1, d1, q3, d3.x, .inr ⟨_, m, ty, _, na, ak, g, _, mc, phi, Rn, cs, cl, cn, ⟨I', q2, d2, cj.fc d3, r.write I.2.1 b2 a4 (by rw [a5, b3]) n11 ne, sr.drp rfl (by omega) (fun x d k t c w _ => sr.1 _ _ _ _ _ w), an, ?_, rn, by omega, by omega⟩, AkL.same (by omega), rfl, rfl, rfl, fm.drop 2⟩⟩
  intro v hv
  by_cases c : v = ((fr (nf - 1)).2.2.1.2 ((fr (nf - 1)).2.2.1.1 - 2)).1
  · rw [c, upH_s] at hv; exact absurd rfl hv
  · rw [upH_n c] at hv
    by_cases d : v = ((fr (nf - 1)).2.2.1.2 ((fr (nf - 1)).2.2.1.1 - 1)).1
    · rw [d]; exact na2 _ a4
    · rw [upH_n d] at hv; exact na2 v hv
end
