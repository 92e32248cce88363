/-! BOTH MACHINES SIDE BY SIDE: references (16 .. 20) -/
section
variable {E : Ev} {F n : Nat} {sh : Nat → Nat × Nat} {pk : Nat → Nat} {kt : Nat} {sl0 : Int32} {lim e : Nat} {zr zc zr' zc' : St} {H : Hp} {m : Nat} {ty : Nat → Nat} {fr : Nat → Fm} {nf na : Nat} {ak : Nat → Ask} {g g' : Nat} {Hc : Hp} {mc : Nat} {phi : Nat → Nat} {Rn : Nat → Option Nat} {cs cl : Nat → Nat → Nat} {cn : Nat → Nat} {ws : Nat → Int64 → Nat → Bool} {u : Nat} {U : Md} {ls : List Ty} {L L' : Lks} {R C : Option (St × Unit)}
/-- a reference on the stack, with its target's class node -/
theorem Sm.rft (h : Sm E sh n pk kt sl0 lim e zr zc H m ty fr nf na ak g Hc mc phi Rn cs cl cn ws) (fm : FM U ls (fr (nf - 1)) L) {i r : Nat} {p : Ty} (hi : 1 ≤ i) (hi2 : i ≤ L.1.1) (hr : r = 8 ∨ r = 9) (t : (L.1.2 (L.1.1 - i)).1 = r :: p) (hp : PT U.1.2.2 p) : ((fr (nf - 1)).2.2.1.2 ((fr (nf - 1)).2.2.1.1 - i)).2.1 = r ∧ ((fr (nf - 1)).2.2.1.2 ((fr (nf - 1)).2.2.1.1 - i)).2.1 ≠ 0 ∧ Rn (cs (nf - 1) ((fr (nf - 1)).2.2.1.1 - i)) = some ((fr (nf - 1)).2.2.1.2 ((fr (nf - 1)).2.2.1.1 - i)).1 ∧ (H ((fr (nf - 1)).2.2.1.2 ((fr (nf - 1)).2.2.1.1 - i)).1).1 ≠ 0 ∧ ty ((fr (nf - 1)).2.2.1.2 ((fr (nf - 1)).2.2.1.1 - i)).1 = sT U.2.2.2.1 p ∧ Hc (cs (nf - 1) ((fr (nf - 1)).2.2.1.1 - i)) = (8, 0, lN (phi ((fr (nf - 1)).2.2.1.2 ((fr (nf - 1)).2.2.1.1 - i)).1), []) ∧ (Hc (phi ((fr (nf - 1)).2.2.1.2 ((fr (nf - 1)).2.2.1.1 - i)).1)).1 ≠ 0 ∧ 0 < phi ((fr (nf - 1)).2.2.1.2 ((fr (nf - 1)).2.2.1.1 - i)).1 ∧ phi ((fr (nf - 1)).2.2.1.2 ((fr (nf - 1)).2.2.1.1 - i)).1 < 2 ^ 31 ∧ RfA fr nf (nf - 1) ((fr (nf - 1)).2.2.1.2 ((fr (nf - 1)).2.2.1.1 - i)) ∧ ((fr (nf - 1)).2.2.1.2 ((fr (nf - 1)).2.2.1.1 - i)).2.2.2.1 = (L.1.2 (L.1.1 - i)).2.1 ∧ ((fr (nf - 1)).2.2.1.2 ((fr (nf - 1)).2.2.1.1 - i)).2.2.2.2 = (L.1.2 (L.1.1 - i)).2.2 := by
  have hh := fm.1
  have n0 := h.nf0
  have m1 := (fm.2.2.1 (L.1.1 - i) (by omega)).1
  have isr : isR (L.1.2 (L.1.1 - i)).1 = true := by rw [t]; exact isR_c hr
  rw [← hh] at m1
  obtain ⟨a1, a2, a3, a4, a5, a6, a7⟩ := h.rf (k := (fr (nf - 1)).2.2.1.1 - i) (by omega) m1 (by rw [hh]; exact isr)
  rw [hh] at m1
  have et : sT U.2.2.2.1 (L.1.2 ((fr (nf - 1)).2.2.1.1 - i)).1 = sT U.2.2.2.1 p := by rw [hh, t, sT_c hr hp]
  have eh : hdT (L.1.2 ((fr (nf - 1)).2.2.1.1 - i)).1 = r := by rw [hh, t]; rfl
  rw [et] at a5
  rw [eh] at a1
  have al := h.2.2.2.2.1.al a4 (by rw [a5]; exact sT_n11 hp)
  have lt := h.2.2.1.2.1.lt al
  have o := m1.2.2 isr
  rw [← hh] at o
  refine ⟨a1, a2, a3, a4, a5, a7, al, lt.1, by omega, ⟨by omega, a2, .inl ⟨_, by omega, rfl⟩⟩, ?_, ?_⟩
  · rw [o.1, hh]
  · rw [o.2, hh]
/-- a reference is made to point elsewhere; c are taken, k0: where it lay -/
theorem Out.point (h : Sm E sh n pk kt sl0 lim 1 zr zc H m ty fr nf na ak g Hc mc phi Rn cs cl cn ws) (fm : FM U ls (fr (nf - 1)) L) {c k0 : Nat} {s : Sl} {q : SS} (hc : c ≤ L.1.1) (hk0 : k0 < (fr (nf - 1)).2.2.1.1) (hk1 : (fr (nf - 1)).2.2.1.1 - c ≤ k0) (hr0 : ((fr (nf - 1)).2.2.1.2 k0).2.1 ≠ 0) (rk : rOk E H fr nf na ak (fun _ => none) s) (st : SlT H ty s) (s9 : s.2.1 ≠ 0) (hq : SMt U.2.2.2.1 s q) (hs : STy U.1.2.2 q.1) (hp : lPush q ((L.1.1 - c, L.1.2), L.2) = .ok L') (hg : g ≤ g') (er : R = some (zr', ())) (ec : C = some (zc', ())) (rm : RM sh n zr' H m (setF fr (nf - 1) (pshV (setH (fr (nf - 1)) ((fr (nf - 1)).2.2.1.1 - c)) s)) nf na ak g' lim) (cm : CM sh n zc' pk kt (upH Hc (cs (nf - 1) k0) (8, 0, lN (phi s.1), [])) mc sl0 (setF fr (nf - 1) (pshV (setH (fr (nf - 1)) ((fr (nf - 1)).2.2.1.1 - c)) s)) (up2 cs (nf - 1) ((fr (nf - 1)).2.2.1.1 - c) (cs (nf - 1) k0)) cl nf g' lim) (f1 : FrR zr zr') (f2 : FrD zc zc') : Out E sh n pk kt sl0 lim zr zc fr nf na ak g ws U ls L' (fun i => i = (fr (nf - 1)).1.2.2) R C := by
  have h' := h
  have n0 := h.nf0
  obtain ⟨I, _, cm0, cj, r, sr, an, na2, rn, rm1, rm2⟩ := h
  have V := Vs_0 (fr := fr) (cs := cs) (cl := cl) (nf := nf) (d := nf - 1) (k := k0) (by omega) hk0
  have rw0 := (sr.1 _ _ _ _ _ V).2 hr0
  have un : ∀ x d k t, Vs fr cs cl nf x d k = some (t, cs (nf - 1) k0) → t.2.1 ≠ 0 → x = 0 ∧ d = nf - 1 ∧ k = k0 := fun x d k t w z => by
    have := sr.2 _ _ _ _ _ _ _ _ _ w V z hr0
    exact this
  refine ⟨zr', zc', er, ec, f1, f2.x, .inr ⟨H, m, ty, _, na, ak, g', _, mc, phi, _, _, cl, cn, ⟨I.prV c rk st s9, rm, cm, cj.fd f2, (r.point cm0.2.1 rw0 s.1).2, ?_, an, na2, fun j t w => ?_, by omega, by omega⟩, AkL.same (by omega), rfl, rfl, rfl, (fm.drop c).psh hp hq hs⟩⟩
  · refine sr.psh n0 (by omega) (fun x d k t c w _ w2 => ?_) ⟨fun z => absurd z s9, fun _ => by simp⟩ (fun _ x d k t w z => ?_)
    · have sl := sr.1 _ _ _ _ _ w
      refine ⟨sl.1, fun z => ?_⟩
      have : c ≠ cs (nf - 1) k0 := fun q => by
        subst q
        obtain ⟨a1, a2, a3⟩ := un x d k t w z
        exact w2 ⟨a1, a2, by omega⟩
      simp only [if_neg this]
      exact sl.2 z
    · obtain ⟨a1, a2, a3⟩ := un x d k t w z
      exact ⟨a1, a2, by omega⟩
  · by_cases k : j = cs (nf - 1) k0
    · simp only [if_pos k, Option.some.injEq] at w
      rw [← w]; exact (I.2.1.2 _ st.1).1
    · simp only [if_neg k] at w
      exact rn j t w
/-- 18 -/
theorem sim_18 (hF : 300 ≤ F) (h : Sm E sh n pk kt sl0 lim 1 zr zc H m ty fr nf na ak g Hc mc phi Rn cs cl cn ws) (hE : EvOk E) (hA : EvA E) (fm : FM U ls (fr (nf - 1)) L) {r : Nat} {p : Ty} (h1 : 1 ≤ L.1.1) (hr : r = 8 ∨ r = 9) (t : (L.1.2 (L.1.1 - 1)).1 = r :: p) (pt : PT U.1.2.2 p) (hnc : NCl E (sT U.2.2.2.1 p)) (hp : lPush (p, 0, false) ((L.1.1 - 1, L.1.2), L.2) = .ok L') {b b' : Int32} : Out E sh n pk kt sl0 lim zr zc fr nf na ak g ws U ls L' (fun i => i = (fr (nf - 1)).1.2.2) (fn_X18_onReference F sh n zr 337 18 b) (fn_X4_refer F sh n zc 87 18 b') := by
  obtain ⟨rr1, rr2⟩ := h.rooms
  have hh := fm.1
  obtain ⟨a1, a2, a3, a4, a5, a6, a7, a8, a9, a10, _⟩ := h.rft fm (i := 1) (by omega) h1 hr t pt
  have n11 : ty ((fr (nf - 1)).2.2.1.2 ((fr (nf - 1)).2.2.1.1 - 1)).1 ≠ 11 := by rw [a5]; exact sT_n11 pt
  have t0 := h.ht.tr39 hE a4
  have tc := h.2.2.2.2.1.tr hA h.2.2.2.2.2.2.2.1 h.ht 39 _ t0 n11
  have zs := szM_le (d := 39) hE h.ht h.pu a4
  obtain ⟨z0, e0, C0, f0⟩ := h.2.2.1.read (F := F) (by omega) rfl (by rw [a6]) (by rw [a6]) a8 a9 (x1 := b')
  have sm : SMt U.2.2.2.1 (m, 0, ty ((fr (nf - 1)).2.2.1.2 ((fr (nf - 1)).2.2.1.1 - 1)).1, 0, false) (p, 0, false) := ⟨(sR_p pt).symm, a5, fun q => absurd (pt.hd.2.symm.trans q) (by decide)⟩
  rw [e0]
  have h64 := h.h64
  by_cases c : g + szM H 39 ((fr (nf - 1)).2.2.1.2 ((fr (nf - 1)).2.2.1.1 - 1)).1 ≤ lim
  · have lim2 := h.2.2.1.2.2.2.2.2.2.2
    have n24 := h.2.2.2.1.2.1
    have b1 := h.2.2.2.2.2.2.2.2.2.1
    have b2 := h.2.2.2.2.2.2.2.2.2.2
    obtain ⟨z1, H', u', o, q1, q2, q3, q4⟩ := (h.2.1.read (F := F) hF h.pu h.ht.1 (by omega) h64 a2 t0 (by omega) (by omega) (t := ty ((fr (nf - 1)).2.2.1.2 ((fr (nf - 1)).2.2.1.1 - 1)).1) (b := b)).1 c
    obtain ⟨z3, z4, z5, Hx, ux, ox, d1, d2, d3, d4, d5⟩ := C0.copyX (F := F) hF tc.1 (by omega) (by rw [tc.2]; omega) (by rw [setF_s, setH_T]; omega) (m, 0, ty ((fr (nf - 1)).2.2.1.2 ((fr (nf - 1)).2.2.1.1 - 1)).1, 0, false) (by rw [tc.2]; exact c)
    rw [tc.2, setF_s, setF_2, setH_T] at d3
    exact Out.cpy h hE hA fm (c := 1) h1 a4 n11 q2 (szM_pos t0) d2 tc.2 (by rw [a5]; exact hnc) sm (.inl pt) hp q1 d1 q3 d3 d5 q4 (f0.trans d4).d
  · obtain ⟨z1, q1, q2, q3⟩ := h.2.1.readE (F := F) hF (by omega) a2 t0 (by omega) (by omega) (by omega) (b := b)
    obtain ⟨z2, d1, d2, d3⟩ := C0.copyE (F := F) hF tc.1 (by omega) (by rw [tc.2]; omega) (by rw [tc.2]; omega)
    exact Out.end 2 5 lim (.inr rfl) q1 d1 q2 d2 q3 (f0.trans d3).x
/-- 20 -/
theorem sim_20 (h : Sm E sh n pk kt sl0 lim 1 zr zc H m ty fr nf na ak g Hc mc phi Rn cs cl cn ws) (fm : FM U ls (fr (nf - 1)) L) {r : Nat} {p : Ty} (h1 : 1 ≤ L.1.1) (hr : r = 8 ∨ r = 9) (t : (L.1.2 (L.1.1 - 1)).1 = r :: p) (pt : PT U.1.2.2 p) (hp : lPush (8 :: p, (L.1.2 (L.1.1 - 1)).2.1, (L.1.2 (L.1.1 - 1)).2.2) ((L.1.1 - 1, L.1.2), L.2) = .ok L') {b b' : Int32} : Out E sh n pk kt sl0 lim zr zc fr nf na ak g ws U ls L' (fun i => i = (fr (nf - 1)).1.2.2) (fn_X18_onReference F sh n zr 337 20 b) (fn_X4_refer F sh n zc 87 20 b') := by
  have hh := fm.1
  obtain ⟨a1, a2, a3, a4, a5, a6, a7, a8, a9, a10, a11, a12⟩ := h.rft fm (i := 1) (by omega) h1 hr t pt
  obtain ⟨z1, q1, q2, q3⟩ := h.2.1.ref20 (F := F) (by omega) h.h64 a2 (b := b) (((fr (nf - 1)).2.2.1.2 ((fr (nf - 1)).2.2.1.1 - 1)).1, 8, ((fr (nf - 1)).2.2.1.2 ((fr (nf - 1)).2.2.1.1 - 1)).2.2.1, ((fr (nf - 1)).2.2.1.2 ((fr (nf - 1)).2.2.1.1 - 1)).2.2.2.1, ((fr (nf - 1)).2.2.1.2 ((fr (nf - 1)).2.2.1.1 - 1)).2.2.2.2) rfl (by simp)
  have st : SlT H ty ((fr (nf - 1)).2.2.1.2 ((fr (nf - 1)).2.2.1.1 - 1)) := (h.1.2.2.1 (nf - 1) (by have := h.nf0; omega)).1 _ (by omega)
  have sm : SMt U.2.2.2.1 (((fr (nf - 1)).2.2.1.2 ((fr (nf - 1)).2.2.1.1 - 1)).1, 8, ((fr (nf - 1)).2.2.1.2 ((fr (nf - 1)).2.2.1.1 - 1)).2.2.1, ((fr (nf - 1)).2.2.1.2 ((fr (nf - 1)).2.2.1.1 - 1)).2.2.2.1, ((fr (nf - 1)).2.2.1.2 ((fr (nf - 1)).2.2.1.1 - 1)).2.2.2.2) (8 :: p, (L.1.2 (L.1.1 - 1)).2.1, (L.1.2 (L.1.1 - 1)).2.2) := by
    refine ⟨(sR_c (.inl rfl)).symm, ?_, fun _ => ⟨a11, a12⟩⟩
    show ((fr (nf - 1)).2.2.1.2 ((fr (nf - 1)).2.2.1.1 - 1)).2.2.1 = sT U.2.2.2.1 (8 :: p)
    rw [sT_c (.inl rfl) pt, ← st.2.1, a5]
  have eH : upH Hc (cs (nf - 1) ((fr (nf - 1)).2.2.1.1 - 1)) (8, 0, lN (phi ((fr (nf - 1)).2.2.1.2 ((fr (nf - 1)).2.2.1.1 - 1)).1), []) = Hc := by
    funext j
    by_cases c : j = cs (nf - 1) ((fr (nf - 1)).2.2.1.1 - 1)
    · rw [c, upH_s, a6]
    · rw [upH_n c]
  refine Out.point (s := (((fr (nf - 1)).2.2.1.2 ((fr (nf - 1)).2.2.1.1 - 1)).1, 8, ((fr (nf - 1)).2.2.1.2 ((fr (nf - 1)).2.2.1.1 - 1)).2.2.1, ((fr (nf - 1)).2.2.1.2 ((fr (nf - 1)).2.2.1.1 - 1)).2.2.2.1, ((fr (nf - 1)).2.2.1.2 ((fr (nf - 1)).2.2.1.1 - 1)).2.2.2.2)) h fm (c := 1) (k0 := (fr (nf - 1)).2.2.1.1 - 1) h1 (by omega) (Nat.le_refl _) a2 (h.1.rSame a10 rfl (fun q => absurd q (by simp)) rfl rfl) ⟨st.1, st.2.1, .inr (.inl rfl)⟩ (by simp) sm (.inr ⟨8, p, .inl rfl, rfl, pt⟩) hp (Nat.le_refl _) q1 ref20C q2 ?_ q3 FrD.rfl'
  rw [eH, up2_id]
  refine h.2.2.1.slots (fun d => ?_)
  by_cases c : d = nf - 1
  · subst c
    rw [setF_s]
    refine ⟨rfl, ?_, rfl⟩
    show (fr (nf - 1)).2.2.1.1 - 1 + 1 = _
    omega
  · rw [setF_n c]; exact ⟨rfl, rfl, rfl⟩
end
