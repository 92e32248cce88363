/-! BOTH MACHINES SIDE BY SIDE: resources (47 .. 51) -/
section
variable {E : Ev} {F n : Nat} {sh : Nat → Nat × Nat} {pk : Nat → Nat} {kt : Nat} {sl0 : Int32} {lim e : Nat} {zr zc zr' zc' : St} {H : Hp} {m : Nat} {ty : Nat → Nat} {fr : Nat → Fm} {nf na : Nat} {ak : Nat → Ask} {g g' : Nat} {Hc : Hp} {mc : Nat} {phi : Nat → Nat} {Rn : Nat → Option Nat} {cs cl : Nat → Nat → Nat} {cn : Nat → Nat} {ws : Nat → Int64 → Nat → Bool} {U : Md} {ls : List Ty} {L L' : Lks} {R C : Option (St × Unit)}
variable {SF : Nat → List Nat} {sd : Int64} {nc nr nrc : Nat} {ac acC : Nat → Int64 × Int64 × Int64} {rs : Nat → Int64 × Nat × Hp × Nat} {so : Nat → Option Rsc}
/-- some are taken first -/
theorem Sm.pops (h : Sm E sh n pk kt sl0 lim e zr zc H m ty fr nf na ak g Hc mc phi Rn cs cl cn ws) {c : Nat} (rm : RM sh n zr' H m (setF fr (nf - 1) (setH (fr (nf - 1)) ((fr (nf - 1)).2.2.1.1 - c))) nf na ak g lim) (cm : CM sh n zc' pk kt Hc mc sl0 (setF fr (nf - 1) (setH (fr (nf - 1)) ((fr (nf - 1)).2.2.1.1 - c))) cs cl nf g lim) (f2 : FrC zc zc') : Sm E sh n pk kt sl0 lim e zr' zc' H m ty (setF fr (nf - 1) (setH (fr (nf - 1)) ((fr (nf - 1)).2.2.1.1 - c))) nf na ak g Hc mc phi Rn cs cl cn ws := by
  obtain ⟨I, _, cm0, cj, r, sr, an, na2, rn, rm1, rm2⟩ := h
  exact ⟨I.drp c, rm, cm, cj.fc f2, r, sr.drp rfl (by omega) (fun x d k t c w _ => sr.1 _ _ _ _ _ w), an, na2, rn, rm1, rm2⟩
theorem Out.after {zr1 zc1 : St} {y : Fm} (f1 : FrR zr zr1) (f2 : FrX zc zc1) (hy : y.1 = (fr (nf - 1)).1) (o : Out E sh n pk kt sl0 lim zr1 zc1 (setF fr (nf - 1) y) nf na ak g ws U ls L' (fun i => i = (fr (nf - 1)).1.2.2) R C) : Out E sh n pk kt sl0 lim zr zc fr nf na ak g ws U ls L' (fun i => i = (fr (nf - 1)).1.2.2) R C := by
  obtain ⟨z1, z2, a1, a2, a3, a4, a5⟩ := o
  refine ⟨z1, z2, a1, a2, f1.trans a3, f2.trans a4, ?_⟩
  rcases a5 with w | ⟨H', m', ty', x, na', ak', g', Hc', mc', phi', Rn', cs', cl', cn', b1, bA, b2, b3, b4, b5⟩
  · exact .inl w
  · rw [setF_2] at b1
    rw [setF_s, hy] at b2 b3
    exact .inr ⟨H', m', ty', x, na', ak', g', Hc', mc', phi', Rn', cs', cl', cn', b1, bA, b2, b3, b4, b5⟩
/-- more was asked for first -/
theorem Out.late {zr1 zc1 : St} {na1 g1 : Nat} {ak1 : Nat → Ask} {P : Nat → Prop} (hl : AkL na ak g na1 ak1 g1) (f1 : FrR zr zr1) (f2 : FrX zc zc1) (o : Out E sh n pk kt sl0 lim zr1 zc1 fr nf na1 ak1 g1 ws U ls L' P R C) : Out E sh n pk kt sl0 lim zr zc fr nf na ak g ws U ls L' P R C := by
  obtain ⟨z1, z2, a1, a2, a3, a4, a5⟩ := o
  refine ⟨z1, z2, a1, a2, f1.trans a3, f2.trans a4, ?_⟩
  rcases a5 with w | ⟨H', m', ty', x, na', ak', g', Hc', mc', phi', Rn', cs', cl', cn', b1, bA, b2, b3, b4, b5⟩
  · exact .inl w
  · exact .inr ⟨H', m', ty', x, na', ak', g', Hc', mc', phi', Rn', cs', cl', cn', b1, hl.trans bA, b2, b3, b4, b5⟩
theorem sim_res (hF : 300 ≤ F) (h : Sm E sh n pk kt sl0 lim 1 zr zc H m ty fr nf na ak g Hc mc phi Rn cs cl cn ws) (hE : EvOk E) (hA : EvA E) (hU : UOk E (fr (nf - 1)).1.1 U) (fm : FM U ls (fr (nf - 1)) L) (rl : RLg zr nc ac nr rs) (cg : CLg zc nc acC nrc so) (lg : LgR E SF sd nc ac acC nr rs so ws) (h0 : 0 < na ∧ (ak 0).1 = 1 ∧ (ak 0).2.1 = sd) (hsd : zr.2.1 337 24 = zc.2.1 kt 1) {o a ku md : Nat} (ho : 47 ≤ o) (ho2 : o ≤ 51) (ha : a < U.1.2.1) (ha2 : a < 256) (hid : U.2.2.2.1 a = 256 * md + a) (h1 : 1 ≤ L.1.1) (t1 : (L.1.2 (L.1.1 - 1)).1 = if o = 47 then [6, a] else [5]) (hrs : resOf U (fr (nf - 1)).1.2.1 = true) (hpt : o = 48 → lPt ls ((L.1.1 - 1, L.1.2), L.2) (48 + a % 15) false = false) (hp : (if o = 48 then lPush ([6, a], 0, false) ((L.1.1 - 1, L.1.2), L.2) else if o = 49 then lPush ([1], 0, false) ((L.1.1 - 1, L.1.2), L.2) else if o = 47 then .ok ((L.1.1 - 1, L.1.2), L.2) else lPush ((if o = 50 then 8 else 9) :: [6, a], bitO (48 + a % 15), false) ((L.1.1 - 1, L.1.2), L.2)) = .ok L') (hu : zr.2.2 337 48 = some ku) (hok : okO sh n ku 16 = true) (hfi : fn_X16_identity F sh n zr ku (nI a) = some (zr, nI (U.2.2.2.1 a))) : Out E sh n pk kt sl0 lim zr zc fr nf na ak g ws U ls L' (fun i => i = (fr (nf - 1)).1.2.2) (fn_X18_onResource F sh n zr 337 (nI o) (nI a)) (fn_X4_keep F sh n zc 87 (nI o) (nI md) (nI a)) := by
  have hh := fm.1
  have h64 := h.h64
  have n0 := h.nf0
  obtain ⟨u1, u2, u3, u4, u5, u6, u7⟩ := hU.2.2.1 a ha
  have pS : PT U.1.2.2 [6, a] := PT_s (by have := hU.2.2.2.2.2.1; omega)
  have pT : PT U.1.2.2 (if o = 47 then [6, a] else [5]) := by
    by_cases c : o = 47
    · rw [if_pos c]; exact pS
    · rw [if_neg c]; exact ⟨by omega, by omega⟩
  have s1 := fm.2.2.1 (L.1.1 - 1) (by omega)
  obtain ⟨b0, b1, b2, b3, b4⟩ := h.pl (k := (fr (nf - 1)).2.2.1.1 - 1) (by omega) (by rw [hh]; exact s1.1) (by rw [t1]; exact pT)
  rw [t1] at b3
  have kd : (H ((fr (nf - 1)).2.2.1.2 ((fr (nf - 1)).2.2.1.1 - 1)).1).1 = if o = 47 then 6 else 5 := by
    by_cases c : o = 47
    · rw [if_pos c, sT_s] at b3
      rw [if_pos c]; exact (h.str hU b2 ha b3).1
    · rw [if_neg c] at b3 ⊢
      exact (h.prim b2 b3 (by show 1 ≤ 5; omega) (by show 5 ≤ 5; omega)).1
  have n11 : ty ((fr (nf - 1)).2.2.1.2 ((fr (nf - 1)).2.2.1.1 - 1)).1 ≠ 11 := by rw [b3]; exact sT_n11 pT
  have kc : (Hc (phi ((fr (nf - 1)).2.2.1.2 ((fr (nf - 1)).2.2.1.1 - 1)).1)).1 = if o = 47 then 6 else 5 := by
    by_cases c : o = 47
    · rw [if_pos c, sT_s] at b3
      rw [(h.nd b2 n11 (by omega)).1, kd]
    · rw [if_neg c] at b3 ⊢
      exact (h.prim b2 b3 (by show 1 ≤ 5; omega) (by show 5 ≤ 5; omega)).2.1
  obtain ⟨zr1, e1, R1, f1⟩ := h.2.1.res0 (F := F) (o := o) ho ho2 hu hok hfi (by omega) b0 kd
  obtain ⟨zc1, e2, C1, f2⟩ := h.2.2.1.keep0 (F := F) (md := md) (st := a) ho ho2 (by omega) b1 kc
  have S1 := h.pops (c := 1) R1 C1 f2
  have fm1 := fm.drop 1
  have ea : (if o = 47 then zc.2.1 kt 1 else (Hc (phi ((fr (nf - 1)).2.2.1.2 ((fr (nf - 1)).2.2.1.1 - 1)).1)).2.2.1) = if o = 47 then zr.2.1 337 24 else (H ((fr (nf - 1)).2.2.1.2 ((fr (nf - 1)).2.2.1.1 - 1)).1).2.2.1 := by
    by_cases c : o = 47
    · rw [if_pos c, if_pos c, hsd]
    · rw [if_neg c] at b3
      rw [if_neg c, if_neg c]
      exact (h.prim b2 b3 (by show 1 ≤ 5; omega) (by show 5 ≤ 5; omega)).2.2.2.1
  rw [ea] at e2
  rw [e1, e2]
  generalize (if o = 47 then zr.2.1 337 24 else (H ((fr (nf - 1)).2.2.1.2 ((fr (nf - 1)).2.2.1.1 - 1)).1).2.2.1) = ad at *
  have kk : KyOk 3 ad (U.2.2.2.1 a) := .inr (.inr ⟨rfl, u2⟩)
  have eM : ckM 3 ad (U.2.2.2.1 a) = md := by show U.2.2.2.1 a / 256 = md; omega
  have eS : ckS 3 (U.2.2.2.1 a) = a := by show U.2.2.2.1 a % 256 = a; omega
  have eA : ckA 3 ad = ad := rfl
  refine Out.after (y := setH (fr (nf - 1)) ((fr (nf - 1)).2.2.1.1 - 1)) f1 f2.x rfl ?_
  have AS := S1.ask (F := F) hF hE hA (rl.keep f1) (cg.of (fun k k1 k2 => f2.2.1 k (by omega) (by omega) (by omega))) lg h0 kk
  rw [eM, eS, eA] at AS
  rcases AS with ⟨zr2, q1, q2, q3, q4⟩ | ⟨zr2, zc2, j, H', m', ty', na', ak', Hc', mc', phi', cn', q1, q2, S2, q4, q5, q6, q7, q8, q9, q10, q11, q12, q13⟩
  · obtain ⟨z3, d1, d2, d3⟩ := C1.keepE (F := F) (o := nI o) (v := nI (phi ((fr (nf - 1)).2.2.1.2 ((fr (nf - 1)).2.2.1.1 - 1)).1)) C1.1 q2
    exact Out.end 2 4 g (.inr rfl) (resE q1) d1 q3 d2 q4 d3.x
  · have c24 := S2.2.2.2.1.2.1
    have rr := S2.rooms
    have hl : ∀ g2, g ≤ g2 → AkL na ak g na' ak' g2 := fun g2 h => ⟨q10, h, fun i hi => by rw [q11 i hi]; exact ⟨rfl, rfl, rfl⟩⟩
    have tm := q12 _ b4
    have fr1 : (setF fr (nf - 1) (setH (fr (nf - 1)) ((fr (nf - 1)).2.2.1.1 - 1))) (nf - 1) = setH (fr (nf - 1)) ((fr (nf - 1)).2.2.1.1 - 1) := setF_s _ _ _
    have fm2 : FM U ls ((setF fr (nf - 1) (setH (fr (nf - 1)) ((fr (nf - 1)).2.2.1.1 - 1))) (nf - 1)) ((L.1.1 - 1, L.1.2), L.2) := by rw [fr1]; exact fm1
    have nx : (fr (nf - 1)).1.2.2 = ((setF fr (nf - 1) (setH (fr (nf - 1)) ((fr (nf - 1)).2.2.1.1 - 1))) (nf - 1)).1.2.2 := by rw [fr1]; rfl
    rw [nx]
    have hU2 : UOk E ((setF fr (nf - 1) (setH (fr (nf - 1)) ((fr (nf - 1)).2.2.1.1 - 1))) (nf - 1)).1.1 U := by rw [fr1]; exact hU
    have h1' : ((setF fr (nf - 1) (setH (fr (nf - 1)) ((fr (nf - 1)).2.2.1.1 - 1))) (nf - 1)).2.2.1.1 < 64 := by rw [fr1, setH_T]; omega
    by_cases o49 : o = 49
    · subst o49
      rw [if_neg (by decide), if_pos rfl] at hp
      have RV := S2.2.1.r49 (F := F) (v := nI ((fr (nf - 1)).2.2.1.2 ((fr (nf - 1)).2.2.1.1 - 1)).1) q6 q1 (by omega) h1'
      have E9 := keep49 (F := F) (v := nI (phi ((fr (nf - 1)).2.2.1.2 ((fr (nf - 1)).2.2.1.1 - 1)).1)) S2.2.2.1 C1.1 (by omega) q2
      by_cases c : g + 10 ≤ lim
      · obtain ⟨z3, w1, w2, w3⟩ := RV.1 c
        obtain ⟨z4, d1, d2, d3⟩ := S2.2.2.1.k49 (F := F) (v := nI (phi ((fr (nf - 1)).2.2.1.2 ((fr (nf - 1)).2.2.1.1 - 1)).1)) S2.2.2.2.1 q6 q7 c h1' (by omega) (m', 0, 1, 0, false)
        have o1 := Out.num S2 hE hU2 fm2 (c := 0) (Nat.zero_le _) (by omega) (by omega) (LTm_tr (by split <;> simp)) hp (by omega) w1 (E9.trans d1) w2 d2 w3 d3.d
        exact Out.late (hl g (Nat.le_refl _)) q4 q5.x o1
      · obtain ⟨z3, w1, w2, w3⟩ := RV.2 (by omega)
        obtain ⟨z4, d1, d2, d3⟩ := S2.2.2.1.k10 (F := F) (o := 49) (v := nI (phi ((fr (nf - 1)).2.2.1.2 ((fr (nf - 1)).2.2.1.1 - 1)).1)) (e := nI j) (by omega) (by omega) (by omega)
        exact Out.end 2 5 lim (.inr rfl) w1 (E9.trans d1) w2 d2 (q4.trans w3) (q5.x.trans d3.x)
    · have ho4 : o = 47 ∨ o = 48 ∨ o = 50 ∨ o = 51 := by omega
      have KN := S2.2.2.1.keepN (F := F) (v := nI (phi ((fr (nf - 1)).2.2.1.2 ((fr (nf - 1)).2.2.1.1 - 1)).1)) S2.2.2.2.1 C1.1 q6 q7 ho4 q2
      by_cases cth : (ak' j).2.2.2.2.1 = decide (o = 47)
      · obtain ⟨z3, w1, w2, w3⟩ := S2.2.1.rNo (F := F) (v := nI ((fr (nf - 1)).2.2.1.2 ((fr (nf - 1)).2.2.1.1 - 1)).1) q6 ho4 q1 cth
        obtain ⟨z4, d1, d2, d3⟩ := KN.1 cth
        exact Out.end 2 3 g (.inr rfl) w1 d1 w2 d2 (q4.trans w3) (q5.x.trans d3.x)
      · have K2 := KN.2 cth
        rw [K2]
        by_cases o47 : o = 47
        · subst o47
          rw [if_neg (by decide), if_neg (by decide), if_pos rfl] at hp
          cases hp
          have th : (ak' j).2.2.2.2.1 = false := by
            cases q : (ak' j).2.2.2.2.1
            · rfl
            · exact absurd q (by simpa using cth)
          rw [if_pos rfl, sT_s] at b3
          have al' : (H' ((fr (nf - 1)).2.2.1.2 ((fr (nf - 1)).2.2.1.1 - 1)).1).1 ≠ 0 := by rw [tm.1]; exact b2
          have ty2 : ty' ((fr (nf - 1)).2.2.1.2 ((fr (nf - 1)).2.2.1.1 - 1)).1 = 256 + U.2.2.2.1 a := by rw [tm.2.1]; exact b3
          have t0 := S2.ht.tr39 hE al'
          have tc := S2.2.2.2.2.1.tr hA S2.2.2.2.2.2.2.2.1 S2.ht 39 _ t0 (by rw [ty2]; omega)
          have zs := szM_le (d := 39) hE S2.ht S2.pu al'
          rw [tm.2.2] at tc
          have RV := S2.2.1.r47 (F := F) hF q6 q1 th t0 (by omega) (by omega)
          have CV := S2.2.2.1.k47 (F := F) hF S2.2.2.2.1 q6 q7 ((fr (nf - 1)).2.2.1.2 ((fr (nf - 1)).2.2.1.1 - 1)).1 tc.1 (by omega) (by rw [tc.2]; omega)
          rw [tc.2] at CV
          by_cases c : g + (10 + szM H' 39 ((fr (nf - 1)).2.2.1.2 ((fr (nf - 1)).2.2.1.1 - 1)).1) ≤ lim
          · obtain ⟨z3, w1, w2, w3⟩ := RV.1 c
            obtain ⟨z4, d1, d2, d3, d4⟩ := CV.1 c
            have I1 := (q13 fr h.1).popN (n := 1) (by omega) (fun i hi => by rw [show (fr (nf - 1)).2.2.1.1 - 1 + i = (fr (nf - 1)).2.2.1.1 - 1 by omega]; exact b0)
            have I2 := (show MJ E H' m' ty' (setF fr (nf - 1) (setH (fr (nf - 1)) ((fr (nf - 1)).2.2.1.1 - 1))) nf na' ak' (fun i => if i = 0 then some ((fr (nf - 1)).2.2.1.2 ((fr (nf - 1)).2.2.1.1 - 1)).1 else none) by
              have e := hd1 (f := fun k => ((fr (nf - 1)).2.2.1.2 k).1) (h := (fr (nf - 1)).2.2.1.1)
              rw [← e]; exact I1).put q6 th (by rw [ty2, q9])
            have S2' := S2
            obtain ⟨_, _, cm0, cj, r, sr, an, na2, rn, rm1, rm2⟩ := S2
            refine ⟨z3, z4, w1, d1, q4.trans w3, q5.x.trans d4, .inr ⟨H', m', ty', setH (fr (nf - 1)) ((fr (nf - 1)).2.2.1.1 - 1), na', upA ak' j ((ak' j).1, (ak' j).2.1, (ak' j).2.2.1, (ak' j).2.2.2.1, true, ((fr (nf - 1)).2.2.1.2 ((fr (nf - 1)).2.2.1.1 - 1)).1), g + (10 + szM H' 39 ((fr (nf - 1)).2.2.1.2 ((fr (nf - 1)).2.2.1.1 - 1)).1), Hc', mc', phi', Rn, cs, cl, (fun e => if e = j then phi ((fr (nf - 1)).2.2.1.2 ((fr (nf - 1)).2.2.1.1 - 1)).1 else cn' e), ?_, (hl g (Nat.le_refl _)).up (by omega) rfl rfl rfl, by rw [fr1], by rw [fr1], by rw [fr1], fm1⟩⟩
            rw [setF_2]
            refine ⟨I2, w2, d2, d3, r, sr, fun i hi h3 ht => ?_, na2, rn, by omega, by omega⟩
            by_cases y : i = j
            · subst y
              simp only [if_true]
              rw [upA_s]
              exact (tm.2.2).symm
            · simp only [if_neg y]
              rw [upA_n y] at h3 ht ⊢
              exact an i hi h3 ht
          · obtain ⟨z3, w1, w2, w3⟩ := RV.2 (by omega)
            obtain ⟨z4, d1, d2, d3⟩ := CV.2 (by omega)
            exact Out.end 2 5 lim (.inr rfl) w1 d1 w2 d2 (q4.trans w3) (q5.x.trans d3.x)
        · have th : (ak' j).2.2.2.2.1 = true := by
            cases q : (ak' j).2.2.2.2.1
            · exact absurd q (by simpa [o47] using cth)
            · rfl
          have ho5 : o = 48 ∨ o = 50 ∨ o = 51 := by omega
          rw [resY S2.2.1 q6 ho5 q1 th]
          obtain ⟨tr1, tr2⟩ := S2.1.2.2.2.2.1 j q6 q7 th
          rw [q9] at tr2
          have anj := S2.2.2.2.2.2.2.1 j q6 q7 th
          have alc := S2.2.2.2.2.1.al tr1 (by rw [tr2]; omega)
          have ltc := S2.2.2.1.2.1.lt alc
          have eRS : E.2.2.1 ((setF fr (nf - 1) (setH (fr (nf - 1)) ((fr (nf - 1)).2.2.1.1 - 1))) (nf - 1)).1.1 ((setF fr (nf - 1) (setH (fr (nf - 1)) ((fr (nf - 1)).2.2.1.1 - 1))) (nf - 1)).1.2.1 = true := by rw [fr1]; exact (hU.2.2.2.2.1 _).trans hrs
          have eRB : E.2.2.2.1 ((setF fr (nf - 1) (setH (fr (nf - 1)) ((fr (nf - 1)).2.2.1.1 - 1))) (nf - 1)).1.1 (ak' j).2.2.1 = 48 + a % 15 := by rw [fr1, q9]; exact hU.2.2.2.1 a ha
          by_cases c : g + 10 ≤ lim
          · by_cases o48 : o = 48
            · subst o48
              rw [if_pos rfl] at hp
              obtain ⟨z3, w1, w2, w3⟩ := S2.2.1.r48 (F := F) (v := nI ((fr (nf - 1)).2.2.1.2 ((fr (nf - 1)).2.2.1.1 - 1)).1) q6 q7 th c h1' (256 + U.2.2.2.1 a)
              obtain ⟨z4, d1, d2, d3, d4⟩ := S2.2.2.1.k48 (F := F) (v := nI (phi ((fr (nf - 1)).2.2.1.2 ((fr (nf - 1)).2.2.1.1 - 1)).1)) S2.2.2.2.1 q6 q7 th c h1' ((ak' j).2.2.2.2.2, 0, 256 + U.2.2.2.1 a, 0, false) 0
              have I1 := S2.1.tak q6 q7 th eRS (fun s hs hq => by
                rw [eRB]
                exact fm2.pt (hpt rfl) hs hq) (ak' j).2.2.2.1 0
              have I2 := I1.psh (s := ((ak' j).2.2.2.2.2, 0, 256 + U.2.2.2.1 a, 0, false)) rfl rfl tr2
              have S2' := S2
              obtain ⟨_, _, cm0, cj, r, sr, an, na2, rn, rm1, rm2⟩ := S2
              have sm : SMt U.2.2.2.1 ((ak' j).2.2.2.2.2, 0, 256 + U.2.2.2.1 a, 0, false) ([6, a], 0, false) := ⟨(sR_p pS).symm, (sT_s (id := U.2.2.2.1) (a := a)).symm, fun q => absurd (pS.hd.2.symm.trans q) (by decide)⟩
              refine ⟨z3, z4, w1, d1, q4.trans w3, q5.x.trans d4, .inr ⟨H', m', ty', _, na', _, _, Hc', mc', phi', Rn, _, cl, _, ⟨I2, w2, d2, d3, r, ?_, fun i hi h3 ht => ?_, na2, rn, by omega, by omega⟩, (hl g (Nat.le_refl _)).up (by omega) rfl rfl rfl, rfl, rfl, rfl, fm2.psh hp sm (.inl pS)⟩⟩
              · have := sr.psh (s := ((ak' j).2.2.2.2.2, 0, 256 + U.2.2.2.1 a, 0, false)) (v := cn' j) S2'.nf0 (a := ((setF fr (nf - 1) (setH (fr (nf - 1)) ((fr (nf - 1)).2.2.1.1 - 1))) (nf - 1)).2.2.1.1) (Nat.le_refl _) (fun x d k t c w _ _ => sr.1 _ _ _ _ _ w) ⟨fun _ => anj, fun q => absurd rfl q⟩ (fun q => absurd rfl q)
                exact this
              · by_cases y : i = j
                · subst y
                  rw [upA_s] at ht
                  exact absurd ht (by simp)
                · simp only [if_neg y]
                  rw [upA_n y] at h3 ht ⊢
                  exact an i hi h3 ht
            · have ho6 : o = 50 ∨ o = 51 := by omega
              rw [if_neg o48, if_neg o49, if_neg o47] at hp
              have hr' : (if o = 50 then 8 else 9) = 8 ∨ (if o = 50 then 8 else 9) = 9 := by split <;> simp
              have r0 : (if o = 50 then 8 else 9) ≠ 0 := by split <;> simp
              obtain ⟨z3, w1, w2, w3⟩ := S2.2.1.r50 (F := F) (v := nI ((fr (nf - 1)).2.2.1.2 ((fr (nf - 1)).2.2.1.1 - 1)).1) q6 ho6 q7 th c h1' ((ak' j).2.2.2.2.2, if o = 50 then 8 else 9, 256 + U.2.2.2.1 a, bitO (48 + a % 15), false) rfl r0
              obtain ⟨z4, d1, d2, d3⟩ := S2.2.2.1.k50 (F := F) (v := nI (phi ((fr (nf - 1)).2.2.1.2 ((fr (nf - 1)).2.2.1.1 - 1)).1)) S2.2.2.2.1 ho6 q6 q7 th (by rw [anj]; omega) c h1' (by omega) ((ak' j).2.2.2.2.2, if o = 50 then 8 else 9, 256 + U.2.2.2.1 a, bitO (48 + a % 15), false)
              rw [anj] at d2
              have sm : SMt U.2.2.2.1 ((ak' j).2.2.2.2.2, if o = 50 then 8 else 9, 256 + U.2.2.2.1 a, bitO (48 + a % 15), false) ((if o = 50 then 8 else 9) :: [6, a], bitO (48 + a % 15), false) := by
                refine ⟨(sR_c hr').symm, ?_, fun _ => ⟨rfl, rfl⟩⟩
                show 256 + U.2.2.2.1 a = sT U.2.2.2.1 ((if o = 50 then 8 else 9) :: [6, a])
                rw [sT_c hr' pS, sT_s]
              have o1 := Out.newR (s := ((ak' j).2.2.2.2.2, if o = 50 then 8 else 9, 256 + U.2.2.2.1 a, bitO (48 + a % 15), false)) S2 fm2 (c := 0) (Nat.zero_le _) (S2.1.rRes q6 q7 th eRS (by rw [eRB]; omega) rfl (by rw [eRB]; exact ob_bit _ (by omega))) ⟨tr1, tr2, .inr hr'⟩ r0 sm (.inr ⟨_, _, hr', rfl, pS⟩) hp (by omega) w1 d1 w2 d2 w3 d3.d
              exact Out.late (hl g (Nat.le_refl _)) q4 q5.x o1
          · obtain ⟨z3, w1, w2, w3⟩ := S2.2.1.r165E (F := F) (j := j) (o := o) (p := 0) (v := nI ((fr (nf - 1)).2.2.1.2 ((fr (nf - 1)).2.2.1.1 - 1)).1) (by omega) (by omega)
            obtain ⟨z4, d1, d2, d3⟩ := S2.2.2.1.k10 (F := F) (o := o) (v := nI (phi ((fr (nf - 1)).2.2.1.2 ((fr (nf - 1)).2.2.1.1 - 1)).1)) (e := nI j) (by omega) (by omega) (by omega)
            exact Out.end 2 5 lim (.inr rfl) w1 d1 w2 d2 (q4.trans w3) (q5.x.trans d3.x)
end
