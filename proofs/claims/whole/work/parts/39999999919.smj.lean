/-! BOTH MACHINES SIDE BY SIDE: storing, borrowing, copying -/
theorem ob_bit : ∀ a, a < 64 → ob (bitO a) a = true := by decide
section
variable {E : Ev} {F n : Nat} {sh : Nat → Nat × Nat} {pk : Nat → Nat} {kt : Nat} {sl0 : Int32} {lim e : Nat} {zr zc zr' zc' : St} {H : Hp} {m : Nat} {ty : Nat → Nat} {fr : Nat → Fm} {nf na : Nat} {ak : Nat → Ask} {g g' : Nat} {Hc : Hp} {mc : Nat} {phi : Nat → Nat} {Rn : Nat → Option Nat} {cs cl : Nat → Nat → Nat} {cn : Nat → Nat} {ws : Nat → Int64 → Nat → Bool} {u : Nat} {U : Md} {ls : List Ty} {L L' : Lks} {R C : Option (St × Unit)}
/-- references of the topmost frame lie on its stack or in its locals -/
theorem Sm.rfa (h : Sm E sh n pk kt sl0 lim e zr zc H m ty fr nf na ak g Hc mc phi Rn cs cl cn ws) {q : Sl} (hq : RfA fr nf (nf - 1) q) : q.2.1 ≠ 0 ∧ ((∃ k, k < (fr (nf - 1)).2.2.1.1 ∧ (fr (nf - 1)).2.2.1.2 k = q) ∨ ∃ k, (fr (nf - 1)).2.1 k = some q) := by
  have g0 : (fr (nf - 1)).2.2.2 = fun _ => none := funext (fun k => h.1.2.2.2.2.2.1 k h.nf0)
  refine ⟨hq.2.1, ?_⟩
  rcases hq.2.2 with w | w | ⟨k, w⟩
  · exact .inl w
  · exact .inr w
  · rw [g0] at w; exact absurd w (by simp)
/-- 13 -/
theorem sim_13 (h : Sm E sh n pk kt sl0 lim 1 zr zc H m ty fr nf na ak g Hc mc phi Rn cs cl cn ws) (fm : FM U ls (fr (nf - 1)) L) {a : Nat} (ha : a < ls.length) (ha2 : a < 40) (h1 : 1 ≤ L.1.1) (t1 : (L.1.2 (L.1.1 - 1)).1 = ls.getD a []) (hpt : isR (ls.getD a []) = false → lPt ls ((L.1.1 - 1, L.1.2), L.2) a false = false) : Out E sh n pk kt sl0 lim zr zc fr nf na ak g ws U ls (lSetL ((L.1.1 - 1, L.1.2), L.2) a true (rO (ls.getD a []) (L.1.2 (L.1.1 - 1)).2.1) (rI (ls.getD a []) (L.1.2 (L.1.1 - 1)).2.2)) (fun i => i = (fr (nf - 1)).1.2.2) (fn_X18_onLocal F sh n zr 337 13 (nI a)) (fn_X4_useLocal F sh n zc 87 13 (nI ((nf - 1) * 40 + a))) := by
  have hh := fm.1
  obtain ⟨m1, m2⟩ := fm.2.2.1 (L.1.1 - 1) (by omega)
  rw [← hh] at m1
  have m1' : SMt U.2.2.2.1 ((fr (nf - 1)).2.2.1.2 ((fr (nf - 1)).2.2.1.1 - 1)) (ls.getD a [], (L.1.2 (L.1.1 - 1)).2.1, (L.1.2 (L.1.1 - 1)).2.2) := by
    rw [← t1]; rw [hh] at m1 ⊢; exact m1
  obtain ⟨z1, q1, q2, q3⟩ := h.2.1.store (F := F) ha2 (by omega)
  obtain ⟨z2, d1, d2, d3⟩ := h.2.2.1.store (F := F) ha2 (by omega) ((fr (nf - 1)).2.2.1.2 ((fr (nf - 1)).2.2.1.1 - 1))
  have fm' := (fm.drop 1).yes ha m1'.rO
  have h' := h
  obtain ⟨I, _, cm0, cj, r, sr, an, na2, rn, rm1, rm2⟩ := h
  refine ⟨z1, z2, q1, d1, q3, d3.x, .inr ⟨H, m, ty, _, na, ak, g, Hc, mc, phi, Rn, _, _, cn, ⟨I.sto (by omega) ha2 (fun q hq => ?_) (fun z s hs hq => ?_), q2, d2, cj.fc d3, r, sr.sto h'.nf0 (by omega), an, na2, rn, by omega, by omega⟩, AkL.same (by omega), rfl, rfl, rfl, fm'⟩⟩
  · by_cases c : L.2.1 a = true
    · obtain ⟨s, e1, e2⟩ := (fm.2.2.2.1 a ha).1 c
      rw [hq] at e1
      cases e1
      rw [e2.1, m1'.1]
    · obtain ⟨e1, e2, _⟩ := (fm.2.2.2.1 a ha).2 (by simpa using c) q hq
      have : ((fr (nf - 1)).2.2.1.2 ((fr (nf - 1)).2.2.1.1 - 1)).2.1 = 0 := by rw [m1'.1, sR, if_neg (by rw [e2]; decide)]
      exact ⟨fun _ => this, fun _ => e1⟩
  · exact (fm.drop 1).pt (hpt (m1'.pl0 z)) hs hq
/-- 14, 15 -/
theorem sim_1415 (h : Sm E sh n pk kt sl0 lim 1 zr zc H m ty fr nf na ak g Hc mc phi Rn cs cl cn ws) (fm : FM U ls (fr (nf - 1)) L) {o a : Nat} (ho : o = 14 ∨ o = 15) (ha : a < ls.length) (hs : PT U.1.2.2 (ls.getD a [])) (h1 : L.2.1 a = true) (hp : lPush ((if o = 14 then 8 else 9) :: ls.getD a [], bitO a, false) L = .ok L') : Out E sh n pk kt sl0 lim zr zc fr nf na ak g ws U ls L' (fun i => i = (fr (nf - 1)).1.2.2) (fn_X18_onLocal F sh n zr 337 (nI o) (nI a)) (fn_X4_useLocal F sh n zc 87 (nI o) (nI ((nf - 1) * 40 + a))) := by
  obtain ⟨rr1, rr2⟩ := h.rooms
  have h64 : (fr (nf - 1)).2.2.1.1 < 64 := by have := (push_ok hp).1; rw [fm.1]; exact this
  obtain ⟨s, e1, e2⟩ := (fm.2.2.2.1 a ha).1 h1
  obtain ⟨l0, l1, l2, l3, l4, l5⟩ := h.loc e1
  have z0 : s.2.1 = 0 := by rw [e2.1]; exact sR_p hs
  have n11 : s.2.2.1 ≠ 11 := by rw [e2.2.1]; exact sT_n11 hs
  obtain ⟨c1, c2⟩ := h.locN e1 (fun _ => n11)
  have hr : (if o = 14 then 8 else 9) = 8 ∨ (if o = 14 then 8 else 9) = 9 := by split <;> simp
  have r0 : (if o = 14 then 8 else 9) ≠ 0 := by split <;> simp
  obtain ⟨z1, q1, q2, q3⟩ := h.2.1.borrow (F := F) ho l0 e1 l1 h64 (s.1, if o = 14 then 8 else 9, s.2.2.1, bitO a, false) rfl r0
  obtain ⟨z2, d1, d2, d3⟩ := h.2.2.1.borrow (F := F) (s' := (s.1, if o = 14 then 8 else 9, s.2.2.1, bitO a, false)) ho l0 e1 c1 c2 h64 (by omega)
  rw [l4 z0] at d2
  have sm : SMt U.2.2.2.1 (s.1, if o = 14 then 8 else 9, s.2.2.1, bitO a, false) ((if o = 14 then 8 else 9) :: ls.getD a [], bitO a, false) := by
    refine ⟨(sR_c hr).symm, ?_, fun _ => ⟨rfl, rfl⟩⟩
    show s.2.2.1 = sT U.2.2.2.1 ((if o = 14 then 8 else 9) :: ls.getD a [])
    rw [sT_c hr hs]; exact e2.2.1
  exact Out.newR (s := (s.1, if o = 14 then 8 else 9, s.2.2.1, bitO a, false)) h fm (c := 0) (by omega) (h.1.rLoc e1 z0 rfl (ob_bit a (by omega))) ⟨l1, l3, .inr hr⟩ r0 sm (.inr ⟨_, _, hr, rfl, hs⟩) hp (Nat.le_refl _) q1 d1 q2 d2 q3 d3.d
/-- 11, a reference -/
theorem sim_11r (hF : 300 ≤ F) (h : Sm E sh n pk kt sl0 lim 1 zr zc H m ty fr nf na ak g Hc mc phi Rn cs cl cn ws) (fm : FM U ls (fr (nf - 1)) L) {a : Nat} (ha : a < ls.length) (hs : STy U.1.2.2 (ls.getD a [])) (hr : isR (ls.getD a []) = true) (h1 : L.2.1 a = true) (hp : lPush (ls.getD a [], rO (ls.getD a []) (L.2.2.1 a), rI (ls.getD a []) (L.2.2.2 a)) L = .ok L') : Out E sh n pk kt sl0 lim zr zc fr nf na ak g ws U ls L' (fun i => i = (fr (nf - 1)).1.2.2) (fn_X18_onLocal F sh n zr 337 11 (nI a)) (fn_X4_useLocal F sh n zc 87 11 (nI ((nf - 1) * 40 + a))) := by
  obtain ⟨rr1, rr2⟩ := h.rooms
  have h64 : (fr (nf - 1)).2.2.1.1 < 64 := by have := (push_ok hp).1; rw [fm.1]; exact this
  obtain ⟨s, e1, e2⟩ := (fm.2.2.2.1 a ha).1 h1
  obtain ⟨l0, l1, l2, l3, l4, l5⟩ := h.loc e1
  have z0 : s.2.1 ≠ 0 := fun z => by have := e2.pl0 z; rw [show isR (ls.getD a [], L.2.2.1 a, L.2.2.2 a).1 = isR (ls.getD a []) from rfl, hr] at this; exact absurd this (by decide)
  obtain ⟨c1, c2⟩ := h.locN e1 (fun z => absurd z z0)
  obtain ⟨o1, o2⟩ := h.2.2.1.lv l0
  have n0 := h.nf0
  have rv := ((h.2.2.1.2.2.1.2.2.2 (nf - 1) (by omega)).2.2.2.2.2.2.1 a s e1).2
  have E0 : fn_X4_useLocal F sh n zc 87 11 (nI ((nf - 1) * 40 + a)) = fn_X4_pushCopy F sh n zc 87 (nI (cl (nf - 1) a)) := by
    unfold fn_X4_useLocal
    rw [if_neg (by decide), (b_mach h.2.2.1.1).1, grd_true, h.2.2.1.1.2.2 87 10 102 rfl, lnk_s, o1, grd_true, o2, lt_t, rv, if_neg (nI_ne0 c1 c2)]
    unfold fn_X4_useLocal_B41
    rw [if_pos rfl, cal_u]
  have RR := h.2.1.copyR (F := F) l0 e1 l1 z0 h64
  have CC := h.2.2.1.copyRef (F := F) hF (l5 z0).2 (by omega) h64 s
  rw [E0]
  by_cases c : g + 1 ≤ lim
  · obtain ⟨z1, q1, q2, q3⟩ := RR.1 c
    obtain ⟨z2, d1, d2, d3⟩ := CC.2 c
    exact Out.newR h fm (c := 0) (by omega) (h.1.rSame ⟨by omega, z0, .inr (.inl ⟨a, e1⟩)⟩ rfl (fun q => q) rfl rfl) ((h.1.2.2.1 (nf - 1) (by omega)).2.1 a s e1).2 z0 e2.rO hs hp (by omega) q1 d1 q2 d2 q3 d3.d
  · obtain ⟨z1, q1, q2, q3⟩ := RR.2 (by omega)
    obtain ⟨z2, d1, d2, d3⟩ := CC.1 (by omega)
    exact Out.end 2 5 lim (.inr rfl) q1 d1 q2 d2 q3 d3.x
end
