/-! BOTH MACHINES SIDE BY SIDE: calls and returns, done -/
theorem fd_ex {p : Nat → Bool} : ∀ r i j, i ≤ j → j < i + r → p j = true → fd p r i ≠ none
  | 0, i, j, h1, h2, _ => by omega
  | r + 1, i, j, h1, h2, h3 => by
    rw [fd_1]
    by_cases c : p i = true
    · rw [if_pos c]; simp
    · rw [if_neg c]
      have : i ≠ j := fun q => c (by rw [q]; exact h3)
      exact fd_ex r (i + 1) j (by omega) (by omega) h3
/-- the last return: what is given stays where it is -/
theorem RM.retF {F n : Nat} {sh : Nat → Nat × Nat} {z : St} {H : Hp} {m : Nat} {fr : Nat → Fm} {nf na : Nat} {ak : Nat → Ask} {g lim : Nat} (h : RM sh n z H m fr nf na ak g lim) (h2 : nf = 1) {ku : Nat} (hu : z.2.2 337 48 = some ku) (ho : okO sh n ku 16 = true) (hg : fn_X16_many F sh n z ku (nI (fr (nf - 1)).1.2.1) 1 = some (z, nI (fr (nf - 1)).2.2.1.1)) : ∃ z', fn_X18_giveBack F sh n z 337 = some (z', ()) ∧ RS sh n z' H m na ak g ∧ FrR z z' ∧ z'.1 337 45 = z.1 337 45 ∧ z'.1 397 = z.1 397 := by
  obtain ⟨i1, i2, i3⟩ := h.i0
  obtain ⟨hL, hr, hM, hf, ha, g1, g2, g3, g4⟩ := h
  obtain ⟨t1, t2, t3⟩ := hf.top
  obtain ⟨a1, a2, a3, a4, a5, a6, a7⟩ := t1
  have key : ∀ k, k ≠ 337 → (sl (si (si z 337 36 (nI (nf - 1))) 337 27 (nI 0)) 337 28 0).1 k = z.1 k := fun k hk => by funext j; simp [si_1, sl_1, hk]
  have keyL : ∀ k, k ≠ 337 → (sl (si (si z 337 36 (nI (nf - 1))) 337 27 (nI 0)) 337 28 0).2.1 k = z.2.1 k := fun k hk => by funext j; simp [si_2, sl_2, hk]
  have k2 : ∀ j, j ≠ 36 → j ≠ 27 → (sl (si (si z 337 36 (nI (nf - 1))) 337 27 (nI 0)) 337 28 0).1 337 j = z.1 337 j := fun j hj hj2 => by simp [si_1, sl_1, hj, hj2]
  refine ⟨sl (si (si z 337 36 (nI (nf - 1))) 337 27 (nI 0)) 337 28 0, ?_, ⟨⟨hL.of rfl, by simp [si_1, sl_1], by simp [sl_2], by rw [k2 26 (by decide) (by decide)]; exact g1⟩, hM.fr (fun k a b => key k (by omega)) (fun k a b => keyL k (by omega)), ha.of (k2 29 (by decide) (by decide)) (fun k a b => ⟨key k (by omega), keyL k (by omega)⟩)⟩, ⟨rfl, fun k k1 _ => ⟨key k k1, keyL k k1⟩, fun j hj => ⟨k2 j (fun e => hj (by rw [e]; simp [mfl])) (fun e => hj (by rw [e]; simp [mfl])), by simp [sl_2, si_2, show j ≠ 28 from fun e => hj (by rw [e]; simp [mfl])]⟩⟩, k2 45 (by decide) (by decide), key 397 (by decide)⟩
  have e2 : nI (bsm fr nf) - nI (bsm fr (nf - 1)) = nI (fr (nf - 1)).2.2.1.1 := by rw [pk_sub (by omega)]; congr 1; omega
  have s36 : (si z 337 36 (nI (nf - 1))).1 337 36 = 0 := by simp [si_1, h2]; rfl
  have s27 : (si z 337 36 (nI (nf - 1))).1 337 27 = -1 := by simp [si_1]; exact hr
  have hL1 : Lay sh n (si z 337 36 (nI (nf - 1))) := hL.of rfl
  unfold fn_X18_giveBack
  simp only [b_model hL, grd_true, hu, lnk_s, hf.1, i1, i2, i3, ho, a3, hg, cal_s, hf.2.2.2.1, a5, e2, ↓reduceIte]
  unfold fn_X18_giveBack_B44
  simp only [hf.1, i1, lt_t, s36, ↓reduceIte]
  unfold fn_X18_end
  simp only [b_model hL1, grd_true, lt_t, s27]
  rw [if_pos (by decide), cal_s]
  rfl
def enS (fr : Nat → Fm) (nf u f c : Nat) : Nat → Fm := enF fr nf u f c (fr (nf - 1)).1.2.2 (ghC (fr (nf - 1)) c) (psA (fr (nf - 1)) c)
/-- a module that was asked for -/
def AskM (na : Nat) (ak : Nat → Ask) (md : Nat) : Prop := ∃ j, j < na ∧ (ak j).1 = 2 ∧ (ak j).2.1 = lN md ∧ (ak j).2.2.1 = 0
theorem AskM.le {na na' g g' md : Nat} {ak ak' : Nat → Ask} (h : AskM na ak md) (l : AkL na ak g na' ak' g') : AskM na' ak' md := by
  obtain ⟨j, h1, h2, h3, h4⟩ := h
  obtain ⟨l1, l2, l3⟩ := l.2.2 j h1
  exact ⟨j, Nat.lt_of_lt_of_le h1 l.1, l1.trans h2, l2.trans h3, l3.trans h4⟩
/-- both enter, or both end alike -/
def OutK (E : Ev) (sh : Nat → Nat × Nat) (n : Nat) (pk : Nat → Nat) (kt : Nat) (sl0 : Int32) (lim : Nat) (zr zc : St) (fr : Nat → Fm) (nf na : Nat) (ak : Nat → Ask) (g : Nat) (ws : Nat → Int64 → Nat → Bool) (U U' : Md) (ls gv : List Ty) (L' L0 : Lks) (u f c md : Nat) (R C : Option (St × Unit)) : Prop := ∃ zr' zc', R = some (zr', ()) ∧ C = some (zc', ()) ∧ FrR zr zr' ∧ FrX zc zc' ∧ ((∃ o c g', (o = 1 ∨ o = 2) ∧ RE sh n zr' o c g' ∧ CE sh n zc' o c g' sl0) ∨ ∃ H' m' ty' na' ak' g' Hc' mc' phi' Rn' cs' cl' cn', Sm E sh n pk kt sl0 lim 0 zr' zc' H' m' ty' (enS fr nf u f c) (nf + 1) na' ak' g' Hc' mc' phi' Rn' cs' cl' cn' ws ∧ AkL na ak g na' ak' g' ∧ AskM na' ak' md ∧ Waits U ls (enS fr nf u f c (nf - 1)) L' gv ∧ FM U' (locOf U' f) (enS fr nf u f c nf) L0)
section
variable {E : Ev} {F n : Nat} {sh : Nat → Nat × Nat} {pk : Nat → Nat} {kt : Nat} {sl0 : Int32} {lim e : Nat} {zr zc zc0 zr' zc' : St} {H : Hp} {m : Nat} {ty : Nat → Nat} {fr : Nat → Fm} {nf na : Nat} {ak : Nat → Ask} {g g' : Nat} {Hc : Hp} {mc : Nat} {phi : Nat → Nat} {Rn : Nat → Option Nat} {cs cl : Nat → Nat → Nat} {cn : Nat → Nat} {ws : Nat → Int64 → Nat → Bool} {U U' : Md} {ls ls' gv : List Ty} {L L' L0 L2 : Lks} {R C : Option (St × Unit)}
variable {SF : Nat → List Nat} {sd : Int64} {nc nr nrc : Nat} {ac acC : Nat → Int64 × Int64 × Int64} {rs : Nat → Int64 × Nat × Hp × Nat} {so : Nat → Option Rsc}
theorem OutK.late {zr1 zc1 : St} {na1 g1 u f c md : Nat} {ak1 : Nat → Ask} (hl : AkL na ak g na1 ak1 g1) (f1 : FrR zr zr1) (f2 : FrX zc zc1) (o : OutK E sh n pk kt sl0 lim zr1 zc1 fr nf na1 ak1 g1 ws U U' ls gv L' L0 u f c md R C) : OutK E sh n pk kt sl0 lim zr zc fr nf na ak g ws U U' ls gv L' L0 u f c md R C := by
  obtain ⟨z1, z2, a1, a2, a3, a4, a5⟩ := o
  refine ⟨z1, z2, a1, a2, f1.trans a3, f2.trans a4, ?_⟩
  rcases a5 with w | ⟨H', m', ty', na', ak', g', Hc', mc', phi', Rn', cs', cl', cn', b1, bA, b2, b3, b4⟩
  · exact .inl w
  · exact .inr ⟨H', m', ty', na', ak', g', Hc', mc', phi', Rn', cs', cl', cn', b1, hl.trans bA, b2, b3, b4⟩
theorem steer1 (hL : Lay sh n zc) {to : Int32} : fn_X4_steer F sh n zc 87 (nI 1) to = fn_X4_giveBack F sh n zc 87 := by
  unfold fn_X4_steer
  rw [if_neg (by decide), if_pos (by rfl), (b_mach hL).1, grd_true, cal_u]
/-- 1, in a call -/
theorem sim_ret (hF : 300 ≤ F) (h : Sm E sh n pk kt sl0 lim 1 zr zc H m ty fr nf na ak g Hc mc phi Rn cs cl cn ws) (h2 : 2 ≤ nf) (w : Waits U ls (fr (nf - 2)) L' gv) (fm : FM U' ls' (fr (nf - 1)) L) (hb : aBack U' (fr (nf - 1)).1.2.1 ls' L = .ok L2) (gl : gv.length = (gvsOf U' (fr (nf - 1)).1.2.1).length) (gk : ∀ k, k < gv.length → TyS U U' (gv.getD k []) ((gvsOf U' (fr (nf - 1)).1.2.1).getD k [])) {ku : Nat} (hu : zr.2.2 337 48 = some ku) (ho : okO sh n ku 16 = true) (hgr : fn_X16_many F sh n zr ku (nI (fr (nf - 1)).1.2.1) 1 = some (zr, nI (gvsOf U' (fr (nf - 1)).1.2.1).length)) (hoc : okO sh n (pk (fr (nf - 1)).1.1) 5 = true) {lc : Nat} (hd : DpC F sh n zc (pk (fr (nf - 1)).1.1) (fr (nf - 1)).1.2.1 lc (nf - 1)) (hgc : fn_X5_gives F sh n zc (pk (fr (nf - 1)).1.1) (nI (fr (nf - 1)).1.2.1) = some (zc, nI (gvsOf U' (fr (nf - 1)).1.2.1).length)) {to : Int32} : ∃ zr' zc' rl, fn_X18_giveBack F sh n zr 337 = some (zr', ()) ∧ fn_X4_steer F sh n zc 87 (nI 1) to = some (zc', ()) ∧ FrR zr zr' ∧ FrX zc zc' ∧ Sm E sh n pk kt sl0 lim 0 zr' zc' H m ty (setF fr (nf - 2) (rtF (fr (nf - 2)) (fr (nf - 1)).2.2.1.1 rl)) (nf - 1) na ak g Hc mc phi Rn (rtC cs (nf - 2) (fr (nf - 2)).2.2.1.1 (fr (nf - 1)).2.2.1.1 (cs (nf - 1))) cl cn ws ∧ FM U ls (rtF (fr (nf - 2)) (fr (nf - 1)).2.2.1.1 rl) L' := by
  obtain ⟨r1, r2, rl, r3, r4, r5⟩ := h.1.rets h2 w fm hb gl gk
  rw [← r1] at hgr hgc
  obtain ⟨z1, p1, p2, p3⟩ := h.2.1.ret (F := F) h2 hu ho hgr r2 rl r3
  obtain ⟨z2, d1, d2, d3⟩ := h.2.2.1.ret (F := F) hF h2 hd hoc hgc r2 rl
  obtain ⟨I, _, cm0, cj, r, sr, an, na2, rn, rm1, rm2⟩ := h
  refine ⟨z1, z2, rl, p1, (steer1 cm0.1).trans d1, p3, d3.x, ⟨r4, p2, d2, cj.fc d3, r, sr.ret h2 r3, an, na2, rn, by omega, by omega⟩, r5⟩
/-- 1, in the outmost frame -/
theorem sim_retE (hF : 300 ≤ F) (h : Sm E sh n pk kt sl0 lim 1 zr zc H m ty fr nf na ak g Hc mc phi Rn cs cl cn ws) (h1 : nf = 1) (fm : FM U' ls' (fr (nf - 1)) L) (hb : aBack U' (fr (nf - 1)).1.2.1 ls' L = .ok L2) {ku : Nat} (hu : zr.2.2 337 48 = some ku) (ho : okO sh n ku 16 = true) (hgr : fn_X16_many F sh n zr ku (nI (fr (nf - 1)).1.2.1) 1 = some (zr, nI (gvsOf U' (fr (nf - 1)).1.2.1).length)) (hoc : okO sh n (pk (fr (nf - 1)).1.1) 5 = true) {lc : Nat} (hd : DpC F sh n zc (pk (fr (nf - 1)).1.1) (fr (nf - 1)).1.2.1 lc (nf - 1)) (hgc : fn_X5_gives F sh n zc (pk (fr (nf - 1)).1.1) (nI (fr (nf - 1)).1.2.1) = some (zc, nI (gvsOf U' (fr (nf - 1)).1.2.1).length)) {to : Int32} : ∃ zr' zc', fn_X18_giveBack F sh n zr 337 = some (zr', ()) ∧ fn_X4_steer F sh n zc 87 (nI 1) to = some (zc', ()) ∧ FrR zr zr' ∧ FrX zc zc' ∧ RS sh n zr' H m na ak g ∧ CE sh n zc' 0 0 g sl0 ∧ HC zc' Hc mc sl0 ∧ CJ zc' na ak cn ws ∧ (zr'.1 337 45 = nI (fr 0).2.2.1.1 ∧ ∀ k, k < (fr 0).2.2.1.1 → zr'.1 397 k = nI ((fr 0).2.2.1.2 k).1) ∧ CFs zc' pk fr cs cl nf := by
  obtain ⟨b1, _, _⟩ := back_ok hb
  have hh := fm.1
  rw [← b1, ← hh] at hgr hgc
  obtain ⟨z1, p1, p2, p3, p4, p5⟩ := h.2.1.retF (F := F) h1 hu ho hgr
  obtain ⟨z2, d1, d2, d3, d4, d5⟩ := h.2.2.1.retE (F := F) hF h1 hd hoc hgc
  have hf := h.2.1.2.2.2.1
  have t0 := hf.2.2.2.2 0 (by omega)
  refine ⟨z1, z2, p1, (steer1 h.2.2.1.1).trans d1, p3, d5.x, p2, d2, d3, h.2.2.2.1.fc d5, ⟨?_, fun k hk => ?_⟩, d4⟩
  · rw [p4, hf.2.2.2.1, h1]
    show nI (bsm fr 0 + (fr 0).2.2.1.1) = _
    rw [show bsm fr 0 = 0 from rfl, Nat.zero_add]
  · have := (t0.2.2.2.2.2.1 k hk).1
    rw [show bsm fr 0 = 0 from rfl, Nat.zero_add] at this
    rw [p5]; exact this
/-- the call's last part on both sides -/
theorem sim_ent (hF : 300 ≤ F) {Hc0 : Hp} {mc0 : Nat} (h0 : CM sh n zc0 pk kt Hc0 mc0 sl0 fr cs cl nf g lim) (h : Sm E sh n pk kt sl0 lim 1 zr zc H m ty fr nf na ak g Hc mc phi Rn cs cl cn ws) (fm : FM U ls (fr (nf - 1)) L) (hU : UOk E (fr (nf - 1)).1.1 U) {a u' f' md j : Nat} (hc : aCall U ls (fr (nf - 1)).1.2.1 a L = .ok L') (h63 : N63 L) (h8 : (tksOf U a).length ≤ 8) (hres : E.2.2.1 u' f' = true → resOf U a = true) (gT : ∀ t, t ∈ gvsOf U a → STy U.1.2.2 t) (tl : (tksOf U' f').length = (tksOf U a).length) (tk : ∀ k, k < (tksOf U a).length → TyS U U' ((tksOf U a).getD k []) ((tksOf U' f').getD k [])) (c0 : L0.1.1 = 0) (c1 : ∀ k, k < (locOf U' f').length → L0.2.1 k = decide (k < (tksOf U' f').length) ∧ (L0.2.1 k = true → isR ((locOf U' f').getD k []) = true → L0.2.2.1 k = bitO (40 + k) ∧ L0.2.2.2 k = false)) (hp : fn_X7_findProgram F sh n zc0 3 (nI md) = some (zc0, some (pk u'))) (ha : fn_X2_ask F sh n zc0 104 2 0 (nI md) 0 = some (zc, nI j)) (hj : j < 24) (hm : AskM na ak md) (f0 : FrX zc0 zc) (ho : okO sh n (pk u') 5 = true) (htk : ∀ z', FrC zc z' → fn_X5_takes F sh n z' (pk u') (nI f') = some (z', nI (tksOf U a).length)) : OutK E sh n pk kt sl0 lim zr zc0 fr nf na ak g ws U U' ls (gvsOf U a) L' L0 u' f' (tksOf U a).length md (fn_X18_enterCall_B111 F sh n 337 (nI (tksOf U a).length) zr (nI u') (nI f')) (fn_X4_enter F sh n zc0 87 (nI md) (nI f')) := by
  have n0 := h.nf0
  have n32 := h0.2.2.1.2.2.1
  have j0 : (0 : Int32) ≤ nI j := (nIge (x := 0) 0 rfl (by omega) (by omega)).mpr (Nat.zero_le _)
  by_cases c32 : nf = 32
  · obtain ⟨z1, p1, p2, p3⟩ := h.2.1.callE (F := F) c32 (c := nI (tksOf U a).length) (u := nI u') (f := nI f')
    obtain ⟨z2, d1, d2, d3⟩ := h0.entE1 (F := F) (f := nI f') hp c32
    exact ⟨z1, z2, p1, d1, p3, d3.x, .inl ⟨2, 4, g, .inr rfl, p2, d2⟩⟩
  · by_cases c : g + 5 ≤ lim
    · obtain ⟨k1, k2, k3, k4⟩ := h.1.calls fm hU (u' := u') hc h63 h8 hres gT tl tk c0 c1
      obtain ⟨z1, p1, p2, p3⟩ := h.2.1.callN (F := F) hF (by omega) c (u := u') (f := f') k1 (by omega) rfl (ghC (fr (nf - 1)) (tksOf U a).length) (psA (fr (nf - 1)) (tksOf U a).length) (fun k hk => ⟨rfl, rfl⟩)
      obtain ⟨z2, d1, d2, d3⟩ := h0.entN (F := F) hF h.2.2.1 hp (by omega) ha j0 c ho htk k1 (by omega) rfl (ghC (fr (nf - 1)) (tksOf U a).length) (psA (fr (nf - 1)) (tksOf U a).length)
      obtain ⟨I, _, cm0, cj, r, sr, an, na2, rn, rm1, rm2⟩ := h
      exact ⟨z1, z2, p1, d1, p3, f0.trans d3.x, .inr ⟨H, m, ty, na, ak, g + 5, Hc, mc, phi, Rn, cs, _, cn, ⟨k2, p2, d2, cj.fd d3, r, sr.call n0 k1 (fun k hk => ⟨rfl, rfl⟩), an, na2, rn, by omega, by omega⟩, AkL.same (by omega), hm, k3, k4⟩⟩
    · obtain ⟨z1, p1, p2, p3⟩ := h.2.1.callG (F := F) (by omega) (by omega) (c := nI (tksOf U a).length) (u := nI u') (f := nI f')
      obtain ⟨z2, d1, d2, d3⟩ := h0.entG (F := F) (f := nI f') h.2.2.1 hp (by omega) ha j0 (by omega)
      exact ⟨z1, z2, p1, d1, p3, f0.trans d3.x, .inl ⟨2, 5, lim, .inr rfl, p2, d2⟩⟩
end
