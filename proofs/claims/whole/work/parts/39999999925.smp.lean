/-! BOTH MACHINES SIDE BY SIDE: unpacking (22), rows of values (53 .. 55) -/
section
variable {E : Ev} {F n : Nat} {sh : Nat → Nat × Nat} {pk : Nat → Nat} {kt : Nat} {sl0 : Int32} {lim e : Nat} {zr zc zr' zc' : St} {H : Hp} {m : Nat} {ty : Nat → Nat} {fr : Nat → Fm} {nf na : Nat} {ak : Nat → Ask} {g g' : Nat} {Hc : Hp} {mc : Nat} {phi : Nat → Nat} {Rn : Nat → Option Nat} {cs cl : Nat → Nat → Nat} {cn : Nat → Nat} {ws : Nat → Int64 → Nat → Bool} {u : Nat} {U : Md} {ls : List Ty} {L L' : Lks} {R C : Option (St × Unit)}
/-- the class's parts of a tree are its own -/
theorem Sm.own (h : Sm E sh n pk kt sl0 lim e zr zc H m ty fr nf na ak g Hc mc phi Rn cs cl cn ws) (hA : EvA E) {x : Nat} (hx : (H x).1 ≠ 0) (h256 : ty x ≠ 256) : ((kds H x).map phi).Nodup ∧ (∀ i, (Hc i).1 ≠ 0 → i ≠ phi x → ∀ w, w ∈ (kds H x).map phi → w ∉ (Hc i).2.2.2) ∧ ∀ c, c ∈ kds H x → (H c).1 ≠ 0 ∧ ty c ≠ 11 := by
  have tyn := h.ht.tyn hA h.2.2.2.2.2.2.2.1
  have kid : ∀ c, c ∈ kds H x → (H c).1 ≠ 0 ∧ ty c ≠ 11 := fun c hc => ⟨tyn.1 x c hc, tyn.2 x hx h256 c hc⟩
  have r := h.2.2.2.2.1
  refine ⟨?_, fun i hi ne w hw hc => ?_, kid⟩
  · have nd := (h.ht.2 x hx).2.2.2.1
    rw [List.Nodup, List.pairwise_iff_getElem] at nd ⊢
    intro i j hi hj hij q
    rw [List.length_map] at hi hj
    rw [List.getElem_map, List.getElem_map] at q
    obtain ⟨a1, a2⟩ := kid _ (List.getElem_mem hi)
    obtain ⟨b1, b2⟩ := kid _ (List.getElem_mem hj)
    exact nd i j hi hj hij (r.2.1 _ _ a1 a2 b1 b2 q)
  · obtain ⟨c, c1, c2⟩ := List.mem_map.mp hw
    obtain ⟨k1, k2⟩ := kid c c1
    rcases r.2.2.2 i hi with ⟨v, v1, v2, v3⟩ | ⟨t, ht⟩
    · subst v3
      rcases r.1 v v1 v2 with ⟨_, _, _, _, d5⟩ | ⟨d1, _, d3, _⟩
      · rw [d5] at hc; exact absurd hc (by simp)
      · rw [d3] at hc
        obtain ⟨c', e1, e2⟩ := List.mem_map.mp (List.mem_reverse.mp hc)
        have l1 := tyn.1 v c' e1
        have l2 := tyn.2 v v1 d1 c' e1
        have : c' = c := r.2.1 _ _ l1 l2 k1 k2 (by rw [e2, c2])
        subst this
        exact ne (by rw [h.pu v x c' e1 c1])
    · rw [(r.2.2.1 i t ht).1] at hc; exact absurd hc (by simp)
/-- 22 -/
theorem sim_22 (hF : 300 ≤ F) (h : Sm E sh n pk kt sl0 lim 1 zr zc H m ty fr nf na ak g Hc mc phi Rn cs cl cn ws) (hE : EvOk E) (hA : EvA E) (hU : UOk E u U) (fm : FM U ls (fr (nf - 1)) L) {a ku : Nat} (ha : a < U.1.2.1) (h1 : 1 ≤ L.1.1) (t1 : (L.1.2 (L.1.1 - 1)).1 = [6, a]) (hp : aGives ((fdsOf U a).map (fun t => (t, 0, false))) ((L.1.1 - 1, L.1.2), L.2) = .ok L') (hu : ∀ z', FrR zr z' → z'.2.2 337 48 = some ku ∧ fn_X16_identity F sh n z' ku (nI a) = some (z', nI (U.2.2.2.1 a))) (ho : okO sh n ku 16 = true) : Out E sh n pk kt sl0 lim zr zc fr nf na ak g ws U ls L' (fun i => i = (fr (nf - 1)).1.2.2) (fn_X18_unpack F sh n zr 337 (nI a)) (fn_X4_scatter F sh n zc 87 (nI (fdsOf U a).length)) := by
  obtain ⟨rr1, rr2⟩ := h.rooms
  have hh := fm.1
  have h64 := h.h64
  obtain ⟨u1, u2, u3, u4, u5, u6, u7⟩ := hU.2.2.1 a ha
  have pt : PT U.1.2.2 [6, a] := PT_s (by have := hU.2.2.2.2.2.1; omega)
  have s1 := fm.2.2.1 (L.1.1 - 1) (by omega)
  obtain ⟨b0, b1, b2, b3, b4⟩ := h.pl (k := (fr (nf - 1)).2.2.1.1 - 1) (by omega) (by rw [hh]; exact s1.1) (by rw [t1]; exact pt)
  rw [t1, sT_s] at b3
  obtain ⟨q1, q2, q3, q4, q5⟩ := h.str hU b2 ha b3
  have n11 : ty ((fr (nf - 1)).2.2.1.2 ((fr (nf - 1)).2.2.1.1 - 1)).1 ≠ 11 := by omega
  have n256 : ty ((fr (nf - 1)).2.2.1.2 ((fr (nf - 1)).2.2.1.1 - 1)).1 ≠ 256 := by omega
  obtain ⟨o1, o2, o3⟩ := h.own hA b2 n256
  obtain ⟨d1, d2, d3⟩ := h.nd b2 n11 n256
  have rt := (h.rtv (k := (fr (nf - 1)).2.2.1.1 - 1) (by omega) b0).2
  have tyn := h.ht.tyn hA h.2.2.2.2.2.2.2.1
  have rtc := h.2.2.2.2.1.rt b2 n11 rt (fun w hw h256 c hc => ⟨tyn.1 w c hc, tyn.2 w hw h256 c hc⟩)
  have gv := gives_ok hp
  have len : ((fdsOf U a).map (fun t => ((t, 0, false) : SS))).length = (fdsOf U a).length := by simp
  have g64 : (fr (nf - 1)).2.2.1.1 - 1 + (fdsOf U a).length ≤ 64 := by
    have := gv.1 (by intro q; rw [q] at len; simp at len; omega)
    rw [len] at this
    simp only at this
    omega
  have key : ∀ i, i < (kds H ((fr (nf - 1)).2.2.1.2 ((fr (nf - 1)).2.2.1.1 - 1)).1).length → (kds H ((fr (nf - 1)).2.2.1.2 ((fr (nf - 1)).2.2.1.1 - 1)).1)[i]? = some ((kds H ((fr (nf - 1)).2.2.1.2 ((fr (nf - 1)).2.2.1.1 - 1)).1).getD i 0) := fun i hi => by simp [List.getD, hi]
  obtain ⟨z1, e1, e2, e3⟩ := h.2.1.unpack (F := F) hF hu ho (by omega) (by omega) rfl b0 q1 q3 rt (h.ht.2 _ b2).2.2.2.1 h.pu (sl := fun i => ((kds H ((fr (nf - 1)).2.2.1.2 ((fr (nf - 1)).2.2.1.1 - 1)).1).getD i 0, 0, ty ((kds H ((fr (nf - 1)).2.2.1.2 ((fr (nf - 1)).2.2.1.1 - 1)).1).getD i 0), 0, false)) (fun i hi => ⟨by simp [List.getD, hi], rfl⟩) (by rw [q5]; exact g64)
  have cw := h.2.2.1.scatter (F := F) hF (ws := (kds H ((fr (nf - 1)).2.2.1.2 ((fr (nf - 1)).2.2.1.1 - 1)).1).map phi) (by omega) b1 (by rw [List.length_map, q5]; exact g64) (by rw [d1, q1]) o1 d2 o2 rtc (fun i => ((kds H ((fr (nf - 1)).2.2.1.2 ((fr (nf - 1)).2.2.1.1 - 1)).1).getD i 0, 0, ty ((kds H ((fr (nf - 1)).2.2.1.2 ((fr (nf - 1)).2.2.1.1 - 1)).1).getD i 0), 0, false))
  rw [List.length_map] at cw
  obtain ⟨z2, c1, c2, c3⟩ := cw
  rw [q5] at c1
  have h' := h
  obtain ⟨I, _, cm0, cj, r, sr, an, na2, rn, rm1, rm2⟩ := h
  refine ⟨z1, z2, e1, c1, e3, c3.x, .inr ⟨_, m, ty, _, na, ak, g, _, mc, phi, Rn, _, cl, cn, ⟨I.upk hE (by omega) b0 _ (fun i c hc => ?_), e2, c2, cj.fc c3, r.unpack I.2.1 b2 n11 rt, sr.many h'.nf0 (by omega) (fun i hi => ⟨rfl, ?_⟩), an, fun v hv => ?_, rn, by omega, by omega⟩, AkL.same (by omega), rfl, rfl, rfl, ?_⟩⟩
  · have hl : i < (kds H ((fr (nf - 1)).2.2.1.2 ((fr (nf - 1)).2.2.1.1 - 1)).1).length := by
      by_cases q : i < (kds H ((fr (nf - 1)).2.2.1.2 ((fr (nf - 1)).2.2.1.1 - 1)).1).length
      · exact q
      · rw [List.getElem?_eq_none (by omega)] at hc; exact absurd hc (by simp)
    have := (key i hl).symm.trans hc
    simp only [Option.some.injEq] at this
    simp only [this]
  · simp [List.getD, hi]
  · by_cases q : v = ((fr (nf - 1)).2.2.1.2 ((fr (nf - 1)).2.2.1.1 - 1)).1
    · rw [q, upH_s] at hv; exact absurd rfl hv
    · rw [upH_n q] at hv; exact na2 v hv
  · have := (fm.drop 1).many (sl := fun i => ((kds H ((fr (nf - 1)).2.2.1.2 ((fr (nf - 1)).2.2.1.1 - 1)).1).getD i 0, 0, ty ((kds H ((fr (nf - 1)).2.2.1.2 ((fr (nf - 1)).2.2.1.1 - 1)).1).getD i 0), 0, false)) hp (fun i hi => ?_)
    · rw [len, ← q5] at this
      exact this
    · rw [len] at hi
      rw [List.getElem_map]
      have pf := u4 _ (List.getElem_mem hi)
      refine ⟨⟨(sR_p pf).symm, ?_, fun q => absurd (pf.hd.2.symm.trans q) (by decide)⟩, .inl pf⟩
      show ty ((kds H ((fr (nf - 1)).2.2.1.2 ((fr (nf - 1)).2.2.1.1 - 1)).1).getD i 0) = sT U.2.2.2.1 (fdsOf U a)[i]
      have e1 : ((kds H ((fr (nf - 1)).2.2.1.2 ((fr (nf - 1)).2.2.1.1 - 1)).1).map ty)[i]? = ((fdsOf U a).map (sT U.2.2.2.1))[i]? := by rw [q4]
      rw [List.getElem?_map, List.getElem?_map, key i (by rw [q5]; exact hi), List.getElem?_eq_getElem hi] at e1
      simpa using e1
/-- a row of values -/
theorem Sm.vec (h : Sm E sh n pk kt sl0 lim e zr zc H m ty fr nf na ak g Hc mc phi Rn cs cl cn ws) {v te : Nat} (hv : (H v).1 ≠ 0) (et : ty v = 2 ^ 32 + te) (hte : te ≠ 11) : (H v).1 = 7 ∧ (H v).2.1 = 0 ∧ (H v).2.2.1 = 0 ∧ (∀ c, c ∈ kds H v → ty c = te) ∧ (kds H v).length ≤ 256 ∧ (Hc (phi v)).1 = 7 ∧ (Hc (phi v)).2.2.2 = ((kds H v).map phi).reverse ∧ (Hc (phi v)).2.2.2.length = (kds H v).length := by
  have lt := (h.ht.2 v hv).2.1
  rw [et] at lt
  obtain ⟨d1, d2, d3⟩ := h.nd hv (by omega) (by omega)
  rcases lt with q | q | q | q | q | q | q | q
  · omega
  · omega
  · omega
  · omega
  · omega
  · omega
  · omega
  · obtain ⟨_, q2, q3, q4, q5, q6⟩ := q
    refine ⟨q2, q3, q4, fun c hc => ?_, by rw [List.length_map] at q6; exact q6, by rw [d1, q2], d2, d3⟩
    rw [q5 (ty c) (List.mem_map_of_mem hc), Nat.add_sub_cancel_left]
/-- 53 -/
theorem sim_53 (hF : 300 ≤ F) (h : Sm E sh n pk kt sl0 lim 1 zr zc H m ty fr nf na ak g Hc mc phi Rn cs cl cn ws) (hE : EvOk E) (hU : UOk E u U) (fm : FM U ls (fr (nf - 1)) L) {r : Nat} {T : Ty} (h1 : 1 ≤ L.1.1) (hr : r = 8 ∨ r = 9) (t : (L.1.2 (L.1.1 - 1)).1 = r :: 7 :: T) (hT : T ∈ elsOf U) (hp : lPush ([3], 0, false) ((L.1.1 - 1, L.1.2), L.2) = .ok L') {b b' : Int32} : Out E sh n pk kt sl0 lim zr zc fr nf na ak g ws U ls L' (fun i => i = (fr (nf - 1)).1.2.2) (fn_X18_onVector F sh n zr 337 53 b) (fn_X4_lineUp F sh n zc 87 53 b') := by
  obtain ⟨rr1, rr2⟩ := h.rooms
  have hh := fm.1
  obtain ⟨e1, e2, e3⟩ := hU.2.1 T hT
  obtain ⟨a1, a2, a3, a4, a5, a6, a7, a8, a9, a10, a11, a12⟩ := h.rft fm (i := 1) (by omega) h1 hr t (PT_v e1)
  rw [sT_v e1] at a5
  obtain ⟨v1, v2, v3, v4, v5, v6, v7, v8⟩ := h.vec a4 a5 e3
  obtain ⟨z1, q1, q2, q3⟩ := h.2.1.v53 (F := F) hF (by omega) h.h64 a2 v1 (by omega) (b := b)
  obtain ⟨z2, d1, d2, d3⟩ := h.2.2.1.v53 (F := F) (by omega) rfl (by rw [a6]) (by rw [a6]) a8 a9 v6 (by omega) (m, 0, 3, 0, false) (x1 := b')
  rw [v8] at d2
  exact Out.num h hE hU fm (c := 1) h1 (by omega) (by omega) (.inr (.inr (.inl ⟨.inl rfl, rfl, rfl, rfl⟩))) hp (Nat.le_refl _) q1 d1 q2 d2 q3 d3.d
/-- 54, 55 -/
theorem sim_5455 (hF : 300 ≤ F) (h : Sm E sh n pk kt sl0 lim 1 zr zc H m ty fr nf na ak g Hc mc phi Rn cs cl cn ws) (hA : EvA E) (hU : UOk E u U) (fm : FM U ls (fr (nf - 1)) L) {o r : Nat} {T : Ty} (ho : o = 54 ∨ o = 55) (h2 : 2 ≤ L.1.1) (hr : r = 8 ∨ r = 9) (h9 : o = 55 → r = 9) (t1 : (L.1.2 (L.1.1 - 1)).1 = [3]) (t2 : (L.1.2 (L.1.1 - 2)).1 = r :: 7 :: T) (hT : T ∈ elsOf U) (hp : lPush ((if o = 55 then 9 else 8) :: T, (L.1.2 (L.1.1 - 2)).2.1, true) ((L.1.1 - 2, L.1.2), L.2) = .ok L') {b b' : Int32} : Out E sh n pk kt sl0 lim zr zc fr nf na ak g ws U ls L' (fun i => i = (fr (nf - 1)).1.2.2) (fn_X18_onVector F sh n zr 337 (nI o) b) (fn_X4_lineUp F sh n zc 87 (nI o) b') := by
  obtain ⟨rr1, rr2⟩ := h.rooms
  have hh := fm.1
  have h64 := h.h64
  obtain ⟨e1, e2, e3⟩ := hU.2.1 T hT
  obtain ⟨a1, a2, a3, a4, a5, a6, a7, a8, a9, a10, a11, a12⟩ := h.rft fm (i := 2) (by omega) h2 hr t2 (PT_v e1)
  rw [sT_v e1] at a5
  obtain ⟨v1, v2, v3, v4, v5, v6, v7, v8⟩ := h.vec a4 a5 e3
  obtain ⟨b0, b1, pb1, pb2, pb3, pb4, pb5⟩ := h.top fm (i := 1) (by omega) (by omega) (by omega) (by omega) t1
  have hr' : (if o = 55 then 9 else 8) = 8 ∨ (if o = 55 then 9 else 8) = 9 := by split <;> simp
  have r0 : (if o = 55 then 9 else 8) ≠ 0 := by split <;> simp
  have RV := h.2.1.v54 (F := F) hF ho (by omega) h64 rfl rfl a2 b0 v1 pb1 (b := b)
  have CV := h.2.2.1.v54 (F := F) hF ho (by omega) rfl b1 (by rw [a6]) (by rw [a6]) a8 a9 v6 pb2 (x1 := b')
  rw [v8, pb4] at CV
  obtain ⟨o1, o2, o3⟩ := h.own hA a4 (by omega)
  by_cases c : ∀ j, j < (kds H ((fr (nf - 1)).2.2.1.2 ((fr (nf - 1)).2.2.1.1 - 2)).1).length → (H ((fr (nf - 1)).2.2.1.2 ((fr (nf - 1)).2.2.1.1 - 1)).1).2.2.1 ≠ lN j
  · obtain ⟨z1, q1, q2, q3⟩ := RV.1 c
    obtain ⟨z2, d1, d2, d3⟩ := CV.1 c
    exact Out.end 2 2 g (.inr rfl) q1 d1 q2 d2 q3 d3.x
  · have : ∃ j, j < (kds H ((fr (nf - 1)).2.2.1.2 ((fr (nf - 1)).2.2.1.1 - 2)).1).length ∧ (H ((fr (nf - 1)).2.2.1.2 ((fr (nf - 1)).2.2.1.1 - 1)).1).2.2.1 = lN j := by
      apply Classical.byContradiction
      intro q
      exact c (fun j hj w => q ⟨j, hj, w⟩)
    obtain ⟨j, hj, ej⟩ := this
    obtain ⟨k1, k2⟩ := o3 _ (List.getElem_mem hj)
    have kt2 := v4 _ (List.getElem_mem hj)
    have cal := h.2.2.2.2.1.al k1 k2
    have clt := h.2.2.1.2.1.lt cal
    obtain ⟨z1, q1, q2, q3⟩ := RV.2 j hj ((kds H ((fr (nf - 1)).2.2.1.2 ((fr (nf - 1)).2.2.1.1 - 2)).1)[j], if o = 55 then 9 else 8, sT U.2.2.2.1 T, (L.1.2 (L.1.1 - 2)).2.1, true) ej rfl r0
    have hd : hd0 ((Hc (phi ((fr (nf - 1)).2.2.1.2 ((fr (nf - 1)).2.2.1.1 - 2)).1)).2.2.2.drop ((kds H ((fr (nf - 1)).2.2.1.2 ((fr (nf - 1)).2.2.1.1 - 2)).1).length - 1 - j)) = phi (kds H ((fr (nf - 1)).2.2.1.2 ((fr (nf - 1)).2.2.1.1 - 2)).1)[j] := by
      have := hd0_rev (f := phi) hj
      rw [← v7] at this
      rw [v8] at this
      exact this
    obtain ⟨z2, d1, d2, d3⟩ := CV.2 j _ _ hj ej hd (by omega) (fun z1 hz => (h.2.2.2.2.1.point hz a3 _).1) ((kds H ((fr (nf - 1)).2.2.1.2 ((fr (nf - 1)).2.2.1.1 - 2)).1)[j], if o = 55 then 9 else 8, sT U.2.2.2.1 T, (L.1.2 (L.1.1 - 2)).2.1, true)
    refine Out.point (q := ((if o = 55 then 9 else 8) :: T, (L.1.2 (L.1.1 - 2)).2.1, true)) (s := ((kds H ((fr (nf - 1)).2.2.1.2 ((fr (nf - 1)).2.2.1.1 - 2)).1)[j], if o = 55 then 9 else 8, sT U.2.2.2.1 T, (L.1.2 (L.1.1 - 2)).2.1, true)) h fm (c := 2) (k0 := (fr (nf - 1)).2.2.1.1 - 2) h2 (by omega) (Nat.le_refl _) a2 (h.1.rPart a10 (List.getElem_mem hj) (fun q => ?_) a11.symm rfl) ⟨k1, kt2, .inr hr'⟩ r0 ⟨(sR_c hr').symm, ?_, fun _ => ⟨rfl, rfl⟩⟩ (.inr ⟨_, _, hr', rfl, e1⟩) hp (Nat.le_refl _) q1 d1 q2 d2 q3 d3.d
    · rw [a1]
      have q' : (if o = 55 then 9 else 8) = 9 := q
      by_cases c : o = 55
      · exact h9 c
      · rw [if_neg c] at q'; exact absurd q' (by decide)
    · show sT U.2.2.2.1 T = sT U.2.2.2.1 ((if o = 55 then 9 else 8) :: T)
      rw [sT_c hr' e1]
end
