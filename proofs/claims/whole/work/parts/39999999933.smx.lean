/-! BOTH MACHINES SIDE BY SIDE: module 0's functions 1, 5 -/
section
variable {E : Ev} {F n : Nat} {sh : Nat → Nat × Nat} {pk : Nat → Nat} {kt : Nat} {sl0 : Int32} {lim e : Nat} {zr zc zr' zc' : St} {H : Hp} {m : Nat} {ty : Nat → Nat} {fr : Nat → Fm} {nf na : Nat} {ak : Nat → Ask} {g g' : Nat} {Hc : Hp} {mc : Nat} {phi : Nat → Nat} {Rn : Nat → Option Nat} {cs cl : Nat → Nat → Nat} {cn : Nat → Nat} {ws : Nat → Int64 → Nat → Bool} {u : Nat} {U : Md} {ls : List Ty} {L L' : Lks} {R C : Option (St × Unit)}
variable {SF : Nat → List Nat} {sd : Int64} {nc nr nrc : Nat} {ac acC : Nat → Int64 × Int64 × Int64} {rs : Nat → Int64 × Nat × Hp × Nat} {so : Nat → Option Rsc}
/-- 1 -/
theorem sim_c1 (hF : 300 ≤ F) (h : Sm E sh n pk kt sl0 lim 1 zr zc H m ty fr nf na ak g Hc mc phi Rn cs cl cn ws) (hE : EvOk E) (hA : EvA E) (fm : FM U ls (fr (nf - 1)) L) (rl : RLg zr nc ac nr rs) (cg : CLg zc nc acC nrc so) (lg : LgR E SF sd nc ac acC nr rs so ws) (h0 : 0 < na ∧ (ak 0).1 = 1 ∧ (ak 0).2.1 = sd) {k : Nat} (h2 : 2 ≤ L.1.1) (t1 : (L.1.2 (L.1.1 - 1)).1 = [6, k]) (t2 : (L.1.2 (L.1.1 - 2)).1 = [5]) (pt : PT U.1.2.2 [6, k]) (hid : U.2.2.2.1 k = 0) : Out E sh n pk kt sl0 lim zr zc fr nf na ak g ws U ls ((L.1.1 - 2, L.1.2), L.2) (fun i => i = (fr (nf - 1)).1.2.2) (fn_X18_coin F sh n zr 337 1) (fn_X4_useCoin F sh n zc 87 1) := by
  obtain ⟨rr1, rr2⟩ := h.rooms
  have hh := fm.1
  obtain ⟨b0, b1, b2, b3, cb, b4, b5⟩ := h.coinS fm (i := 1) (by omega) (by omega) t1 pt hid
  obtain ⟨a0, a1, pa1, pa2, pa3, pa4, pa5⟩ := h.top fm (i := 2) (by omega) (by omega) (by omega) (by omega) t2
  obtain ⟨zr1, e1, R1, f1⟩ := h.2.1.coin1 (F := F) (by omega) rfl rfl b0 a0 pa1 b2
  have e2 := h.2.2.1.coinA (F := F) (f := 1) (v := phi ((fr (nf - 1)).2.2.1.2 ((fr (nf - 1)).2.2.1.1 - 2)).1) (.inl rfl) (by rw [if_pos rfl]; omega) (by rw [if_pos rfl, show (fr (nf - 1)).2.2.1.1 - 1 - 1 = (fr (nf - 1)).2.2.1.1 - 2 by omega]; exact a1) pa2
  have e2' : fn_X4_useCoin F sh n zc 87 1 = cal (fn_X2_ask F sh n zc 104 1 (Hc (phi ((fr (nf - 1)).2.2.1.2 ((fr (nf - 1)).2.2.1.1 - 2)).1)).2.2.1 0 0) (fun z_93 r_94 => fn_X4_useCoin_B45 F sh n 87 (nI 1) z_93 r_94) := e2
  rw [e1, e2', pa4]
  have hal : (H ((fr (nf - 1)).2.2.1.2 ((fr (nf - 1)).2.2.1.1 - 1)).1).1 ≠ 0 := by omega
  have tb : ((fr (nf - 1)).2.2.1.2 ((fr (nf - 1)).2.2.1.1 - 1)).1 < m := (h.ht.2 _ hal).1
  have tc : cb < m := (h.ht.2 cb ((h.ht.2 _ hal).2.2.1 cb (by rw [b4]; simp))).1
  generalize (H ((fr (nf - 1)).2.2.1.2 ((fr (nf - 1)).2.2.1.1 - 2)).1).2.2.1 = ad at *
  have AS := Sm.askG (F := F) R1 hF h hE hA (rl.keep f1) cg lg h0 (s := 1) (a := ad) (k := 0) (.inl ⟨rfl, rfl⟩)
  have eA : ckA 1 ad = ad := rfl
  have eM : ckM 1 ad 0 = 0 := rfl
  have eS : ckS 1 0 = 0 := rfl
  rw [eA, eM, eS] at AS
  have i0 : nI 0 = 0 := rfl
  have i1 : nI 1 = 1 := rfl
  rw [i0, i1] at AS
  rcases AS with ⟨zr2, q1, q2, q3, q4⟩ | ⟨zr2, zc2, j, H', m', ty', na', ak', Hc', mc', phi', cn', q1, q2, R2, S2, q4, q5, q6, q7, q8, q9, q10, q11, q12, q13⟩
  · obtain ⟨z3, d1, d2, d3⟩ := h.2.2.1.coinE (F := F) (f := nI 1)
    exact Out.end 2 4 g (.inr rfl) (by rw [q1, cal_s]; unfold fn_X18_coin_B100; rw [if_pos (by decide)]) (by rw [q2, cal_s]; exact d1) q3 d2 (f1.trans q4) d3.x
  · rw [q1, q2, cal_s, cal_s]
    have tm := q12 _ tb
    have tm2 := q12 _ tc
    have n24 := S2.2.2.1.2.1
    have kb : kds H' ((fr (nf - 1)).2.2.1.2 ((fr (nf - 1)).2.2.1.1 - 1)).1 = [cb] := by
      unfold kds at b4 ⊢
      rw [tm.1]; exact b4
    have RV := R2.coin1b (F := F) q6 (by omega) (by rw [tm.1]; exact hal) kb
    have hb2 : (Hc' (phi ((fr (nf - 1)).2.2.1.2 ((fr (nf - 1)).2.2.1.1 - 1)).1)).1 = 10 ∧ (Hc' (phi ((fr (nf - 1)).2.2.1.2 ((fr (nf - 1)).2.2.1.1 - 1)).1)).2.2.1 = (H' cb).2.2.1 := by
      have al' : (H' ((fr (nf - 1)).2.2.1.2 ((fr (nf - 1)).2.2.1.1 - 1)).1).1 ≠ 0 := by rw [tm.1]; exact hal
      have s1 := fm.2.2.1 (L.1.1 - 1) (by omega)
      obtain ⟨_, _, _, y3, _⟩ := h.pl (k := (fr (nf - 1)).2.2.1.1 - 1) (by omega) (by rw [hh]; exact s1.1) (by rw [t1]; exact pt)
      rw [t1, sT_s, hid] at y3
      have t256 : ty' ((fr (nf - 1)).2.2.1.2 ((fr (nf - 1)).2.2.1.1 - 1)).1 = 256 := by rw [tm.2.1]; exact y3
      rcases S2.2.2.2.1.1 _ al' (by omega) with ⟨_, c2, _, ⟨c', c4, c5⟩, _⟩ | ⟨c1, _⟩
      · rw [kb] at c4
        have : cb = c' := by simpa using c4
        subst this
        rw [tm.2.2] at c2 c5
        exact ⟨c2, c5⟩
      · exact absurd t256 c1
    have ha2 : (Hc' (phi ((fr (nf - 1)).2.2.1.2 ((fr (nf - 1)).2.2.1.1 - 2)).1)).1 = 5 := by
      have alA : (H ((fr (nf - 1)).2.2.1.2 ((fr (nf - 1)).2.2.1.1 - 2)).1).1 ≠ 0 := by omega
      have tma := q12 _ (h.ht.2 _ alA).1
      have s2 := fm.2.2.1 (L.1.1 - 2) (by omega)
      obtain ⟨_, _, _, y3, _⟩ := h.pl (k := (fr (nf - 1)).2.2.1.1 - 2) (by omega) (by rw [hh]; exact s2.1) (show PT U.1.2.2 (L.1.2 (L.1.1 - 2)).1 by rw [t2]; exact ⟨by omega, by omega⟩)
      rw [t2] at y3
      have y5 : ty ((fr (nf - 1)).2.2.1.2 ((fr (nf - 1)).2.2.1.1 - 2)).1 = 5 := y3
      rcases S2.2.2.2.1.1 ((fr (nf - 1)).2.2.1.2 ((fr (nf - 1)).2.2.1.1 - 2)).1 (by rw [tma.1]; exact alA) (by rw [tma.2.1, y5]; decide) with ⟨c1, _⟩ | ⟨_, c2, _⟩
      · rw [tma.2.1, y5] at c1; exact absurd c1 (by decide)
      · rw [tma.2.2, tma.1] at c2; rw [c2]; exact pa1
    have CV := S2.2.1.coin1 (F := F) S2.2.2.1 q6 q7 (by omega) a1 ha2 b1 hb2.1
    rw [hb2.2] at CV
    by_cases c : g + 5 ≤ lim
    · obtain ⟨z3, w1, w2, w3⟩ := RV.2 c
      obtain ⟨z4, d1, d2, d3, d4⟩ := CV.2 c
      have I1 := (q13 _ h.1).dep q6 q7 (by omega) b0 (by rw [tm.1]; exact hal) (by rw [tm.2.1]; exact h.coinT fm (i := 1) (by omega) (by omega) t1 pt hid) kb
      obtain ⟨_, cm0, cj, r, sr, an, na2, rn, rm1, rm2⟩ := S2
      refine ⟨z3, z4, w1, d1, (f1.trans q4).trans w3, q5.x.trans d4, .inr ⟨H', m', ty', _, na', _, g + 5, Hc', mc', phi', Rn, cs, cl, cn', ⟨I1, w2, d2, d3, r, ?_, ?_, na2, rn, by omega, by omega⟩, (show AkL na ak g na' ak' g from ⟨q10, Nat.le_refl _, fun i hi => by rw [q11 i hi]; exact ⟨rfl, rfl, rfl⟩⟩).up (by omega) rfl rfl rfl, rfl, rfl, rfl, fm.drop 2⟩⟩
      · exact sr.drp (a := (fr (nf - 1)).2.2.1.1 - 2) rfl (by omega) (fun x d k t c w _ => sr.1 _ _ _ _ _ w)
      · intro i hi h3 ht2
        by_cases y : i = j
        · subst y
          rw [upA_s] at h3
          have h3' : (ak' i).1 = 3 := h3
          omega
        · rw [upA_n y] at h3 ht2 ⊢
          exact an i hi h3 ht2
    · obtain ⟨z3, w1, w2, w3⟩ := RV.1 (by omega)
      obtain ⟨z4, d1, d2, d3⟩ := CV.1 (by omega)
      exact Out.end 2 5 lim (.inr rfl) w1 d1 w2 d2 ((f1.trans q4).trans w3) (q5.x.trans d3.x)
/-- 5 -/
theorem sim_c5 (hF : 300 ≤ F) (h : Sm E sh n pk kt sl0 lim 1 zr zc H m ty fr nf na ak g Hc mc phi Rn cs cl cn ws) (hE : EvOk E) (hA : EvA E) (hU : UOk E u U) (fm : FM U ls (fr (nf - 1)) L) (rl : RLg zr nc ac nr rs) (cg : CLg zc nc acC nrc so) (lg : LgR E SF sd nc ac acC nr rs so ws) (h0 : 0 < na ∧ (ak 0).1 = 1 ∧ (ak 0).2.1 = sd) (h1 : 1 ≤ L.1.1) (t1 : (L.1.2 (L.1.1 - 1)).1 = [5]) (hp : lPush ([3], 0, false) ((L.1.1 - 1, L.1.2), L.2) = .ok L') : Out E sh n pk kt sl0 lim zr zc fr nf na ak g ws U ls L' (fun i => i = (fr (nf - 1)).1.2.2) (fn_X18_coin F sh n zr 337 5) (fn_X4_useCoin F sh n zc 87 5) := by
  obtain ⟨rr1, rr2⟩ := h.rooms
  have hh := fm.1
  have h64 := h.h64
  obtain ⟨a0, a1, pa1, pa2, pa3, pa4, pa5⟩ := h.top fm (i := 1) (by omega) (by omega) (by omega) (by omega) t1
  obtain ⟨zr1, e1, R1, f1⟩ := h.2.1.coin5 (F := F) (by omega) rfl a0 pa1
  have e2 := h.2.2.1.coinA (F := F) (f := 5) (v := phi ((fr (nf - 1)).2.2.1.2 ((fr (nf - 1)).2.2.1.1 - 1)).1) (.inr rfl) (by rw [if_neg (by decide)]; omega) (by rw [if_neg (by decide)]; exact a1) pa2
  have e2' : fn_X4_useCoin F sh n zc 87 5 = cal (fn_X2_ask F sh n zc 104 1 (Hc (phi ((fr (nf - 1)).2.2.1.2 ((fr (nf - 1)).2.2.1.1 - 1)).1)).2.2.1 0 0) (fun z_93 r_94 => fn_X4_useCoin_B45 F sh n 87 (nI 5) z_93 r_94) := e2
  rw [e1, e2', pa4]
  generalize q : (H ((fr (nf - 1)).2.2.1.2 ((fr (nf - 1)).2.2.1.1 - 1)).1).2.2.1 = ad at *
  have AS := Sm.askG (F := F) R1 hF h hE hA (rl.keep f1) cg lg h0 (s := 1) (a := ad) (k := 0) (.inl ⟨rfl, rfl⟩)
  have eA : ckA 1 ad = ad := rfl
  have eM : ckM 1 ad 0 = 0 := rfl
  have eS : ckS 1 0 = 0 := rfl
  rw [eA, eM, eS] at AS
  have i0 : nI 0 = 0 := rfl
  have i1 : nI 1 = 1 := rfl
  rw [i0, i1] at AS
  rcases AS with ⟨zr2, q1, q2, q3, q4⟩ | ⟨zr2, zc2, j, H', m', ty', na', ak', Hc', mc', phi', cn', q1, q2, R2, S2, q4, q5, q6, q7, q8, q9, q10, q11, q12, q13⟩
  · obtain ⟨z3, d1, d2, d3⟩ := h.2.2.1.coinE (F := F) (f := nI 5)
    exact Out.end 2 4 g (.inr rfl) (by rw [q1, cal_s]; unfold fn_X18_coin_B381; rw [if_pos (by decide)]) (by rw [q2, cal_s]; exact d1) q3 d2 (f1.trans q4) d3.x
  · rw [q1, q2, cal_s, cal_s]
    have tm := q12 _ (h.ht.2 _ (show (H ((fr (nf - 1)).2.2.1.2 ((fr (nf - 1)).2.2.1.1 - 1)).1).1 ≠ 0 by omega)).1
    have n24 := S2.2.2.1.2.1
    have lim1 := S2.2.1.2.2.2.2.2.2.1
    have lim2 := S2.2.1.2.2.2.2.2.2.2
    have bb1 := S2.2.2.2.2.2.2.2.2.1
    have bb2 := S2.2.2.2.2.2.2.2.2.2
    have hb2 : (Hc' (phi ((fr (nf - 1)).2.2.1.2 ((fr (nf - 1)).2.2.1.1 - 1)).1)).1 = 5 := by
      have al' : (H' ((fr (nf - 1)).2.2.1.2 ((fr (nf - 1)).2.2.1.1 - 1)).1).1 ≠ 0 := by rw [tm.1]; omega
      have s1 := fm.2.2.1 (L.1.1 - 1) (by omega)
      obtain ⟨_, _, _, y3, _⟩ := h.pl (k := (fr (nf - 1)).2.2.1.1 - 1) (by omega) (by rw [hh]; exact s1.1) (by rw [t1]; exact (show PT U.1.2.2 [5] from ⟨by omega, by omega⟩))
      rw [t1] at y3
      have t5 : ty' ((fr (nf - 1)).2.2.1.2 ((fr (nf - 1)).2.2.1.1 - 1)).1 = 5 := by rw [tm.2.1]; exact y3
      rcases S2.2.2.2.1.1 _ al' (by omega) with ⟨c1, _⟩ | ⟨_, c2, _⟩
      · omega
      · rw [tm.2.2, tm.1] at c2
        rw [c2]; exact pa1
    have RV := R2.coin5b (F := F) q6 (by omega) (by rw [setF_s, setH_T]; omega)
    rw [setF_s, setF_2] at RV
    have CV := S2.2.1.coin5 (F := F) S2.2.2.1 q6 q7 (by omega) a1 hb2 (by omega) (m', 0, 3, 0, false)
    by_cases c : g + 5 ≤ lim
    · obtain ⟨z3, w1, w2, w3⟩ := RV.2 c
      obtain ⟨z4, d1, d2, d3⟩ := CV.2 c
      obtain ⟨s1, s2, _⟩ := SMt_num (id := U.2.2.2.1) (v := m') (k := 3) (ns := U.1.2.2) (by omega) (by omega)
      exact ⟨z3, z4, w1, d1, (f1.trans q4).trans w3, q5.x.trans d3.x, .inr ⟨_, _, _, _, _, _, _, _, _, _, _, _, _, _, S2.num hE (c := 1) (by omega) (by omega) (by omega) (.inr (.inr (.inl ⟨.inl rfl, rfl, rfl, rfl⟩))) (hU.1 3 (by omega) (by omega)) (by omega) w2 d2 (S2.2.2.1.fc d3), ⟨q10, by omega, fun i hi => by rw [q11 i hi]; exact ⟨rfl, rfl, rfl⟩⟩, rfl, rfl, rfl, (fm.drop 1).psh hp s1 s2⟩⟩
    · obtain ⟨z3, w1, w2, w3⟩ := RV.1 (by omega)
      obtain ⟨z4, d1, d2, d3⟩ := CV.1 (by omega)
      exact Out.end 2 5 lim (.inr rfl) w1 d1 w2 d2 ((f1.trans q4).trans w3) (q5.x.trans d3.x)
end
