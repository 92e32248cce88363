/-! BOTH MACHINES SIDE BY SIDE: module 0's functions 1, 4, 5 -/
section
variable {E : Ev} {F n : Nat} {sh : Nat → Nat × Nat} {pk : Nat → Nat} {kt : Nat} {sl0 : Int32} {lim e : Nat} {zr zc zr' zc' : St} {H : Hp} {m : Nat} {ty : Nat → Nat} {fr : Nat → Fm} {nf na : Nat} {ak : Nat → Ask} {g g' : Nat} {Hc : Hp} {mc : Nat} {phi : Nat → Nat} {Rn : Nat → Option Nat} {cs cl : Nat → Nat → Nat} {cn : Nat → Nat} {ws : Nat → Int64 → Nat → Bool} {u : Nat} {U : Md} {ls : List Ty} {L L' : Lks} {R C : Option (St × Unit)}
variable {SF : Nat → List Nat} {sd : Int64} {nc nr nrc : Nat} {ac acC : Nat → Int64 × Int64 × Int64} {rs : Nat → Int64 × Nat × Hp × Nat} {so : Nat → Option Rsc}
theorem SmC.slot (h : SmC E sh n pk kt sl0 lim e zc H m ty fr nf na ak g Hc mc phi Rn cs cl cn ws) {a d k c : Nat} {s : Sl} (q : Vs fr cs cl nf a d k = some (s, c)) : (H s.1).1 ≠ 0 ∧ s.1 < m ∧ ty s.1 = s.2.2.1 := by
  obtain ⟨v1, v2⟩ := Vs_c q
  obtain ⟨j1, j2, _⟩ := h.1.2.2.1 d v1
  have st : SlT H ty s := by
    rcases v2 with ⟨_, a2, a3, _⟩ | ⟨_, a2, _⟩
    · rw [a3]; exact j1 k a2
    · exact (j2 k s a2).2
  exact ⟨st.1, (h.1.2.1.2 _ st.1).1, st.2.1⟩
theorem SmC.num (h : SmC E sh n pk kt sl0 lim 1 zc H m ty fr nf na ak g Hc mc phi Rn cs cl cn ws) (hE : EvOk E) {c k : Nat} {x y : Int64} (hc : c ≤ (fr (nf - 1)).2.2.1.1) (hk : 1 ≤ k) (hk5 : k ≤ 5) (ht : LTm E k (k, x, y, []) []) (h38 : E.2.1 k ≤ 38) (hg : g ≤ g') (rm : RM sh n zr' (upH H m (k, x, y, [])) (m + 1) (setF fr (nf - 1) (pshV (setH (fr (nf - 1)) ((fr (nf - 1)).2.2.1.1 - c)) (m, 0, k, 0, false))) nf na ak g' lim) (cm : CM sh n zc' pk kt (upH Hc mc (k, x, y, [])) (mc + 1) sl0 (setF fr (nf - 1) (pshV (setH (fr (nf - 1)) ((fr (nf - 1)).2.2.1.1 - c)) (m, 0, k, 0, false))) (up2 cs (nf - 1) ((fr (nf - 1)).2.2.1.1 - c) mc) cl nf g' lim) (cj : CJ zc' na ak cn ws) : Sm E sh n pk kt sl0 lim 0 zr' zc' (upH H m (k, x, y, [])) (m + 1) (fun i => if i = m then k else ty i) (setF fr (nf - 1) (pshV (setH (fr (nf - 1)) ((fr (nf - 1)).2.2.1.1 - c)) (m, 0, k, 0, false))) nf na ak g' (upH Hc mc (k, x, y, [])) (mc + 1) (fun i => if i = m then mc else phi i) Rn (up2 cs (nf - 1) ((fr (nf - 1)).2.2.1.1 - c) mc) cl cn ws := by
  have h' := h
  obtain ⟨I, cm0, _, r, sr, an, na2, rn, rm1, rm2⟩ := h
  have hcu : ∀ i, (Hc i).1 ≠ 0 → i < mc := fun i q => (cm0.2.1.lt q).2.1
  have nf0 : 0 < nf := cm0.2.2.1.2.1
  refine ⟨I.num hE c ht h38 (by omega), rm, cm, cj, ?_, ?_, ?_, ?_, fun j t q => by have := rn j t q; omega, by omega, by omega⟩
  · exact r.node I.2.1 hcu rn (cs := []) (fun c q => absurd q (by simp)) (by omega) (by omega) (by omega) (fun _ => ⟨rfl, rfl⟩)
  · refine sr.psh nf0 (by omega) (fun a d k t c q _ _ => ?_) ⟨fun _ => by simp, fun q => absurd rfl q⟩ (fun q => absurd rfl q)
    have hs := h'.slot q
    have sl := sr.1 _ _ _ _ _ q
    exact ⟨fun z => by simp only [if_neg (show t.1 ≠ m by omega)]; exact sl.1 z, sl.2⟩
  · intro j hj h3 ht2
    have := (I.2.2.2.2.1 j hj h3 ht2).1
    have hl := (I.2.1.2 _ this).1
    simp only [if_neg (show (ak j).2.2.2.2.2 ≠ m by omega)]
    exact an j hj h3 ht2
  · intro v hv
    by_cases c : v = m
    · simp only [if_pos c]; omega
    · simp only [if_neg c]
      rw [upH_n c] at hv
      exact na2 v hv
/-- 4 -/
theorem sim_c4 (hF : 300 ≤ F) (h : Sm E sh n pk kt sl0 lim 1 zr zc H m ty fr nf na ak g Hc mc phi Rn cs cl cn ws) (hE : EvOk E) (hC : E.2.1 256 ≤ 38 ∧ E.2.1 11 ≤ 38) (fm : FM U ls (fr (nf - 1)) L) {k k2 k3 : Nat} {L1 : Lks} (h2 : 2 ≤ L.1.1) (t1 : (L.1.2 (L.1.1 - 1)).1 = [3]) (t2 : (L.1.2 (L.1.1 - 2)).1 = [6, k]) (pt : PT U.1.2.2 [6, k]) (hid : U.2.2.2.1 k = 0) (pt2 : PT U.1.2.2 [6, k2]) (hid2 : U.2.2.2.1 k2 = 0) (pt3 : PT U.1.2.2 [6, k3]) (hid3 : U.2.2.2.1 k3 = 0) (hp : lPush ([6, k2], 0, false) ((L.1.1 - 2, L.1.2), L.2) = .ok L1) (hp2 : lPush ([6, k3], 0, false) L1 = .ok L') : Out E sh n pk kt sl0 lim zr zc fr nf na ak g ws U ls L' (fun i => i = (fr (nf - 1)).1.2.2) (fn_X18_coin F sh n zr 337 4) (fn_X4_useCoin F sh n zc 87 4) := by
  obtain ⟨rr1, rr2⟩ := h.rooms
  have hh := fm.1
  obtain ⟨b0, b1, pb1, pb2, pb3, pb4, pb5⟩ := h.top fm (i := 1) (by omega) (by omega) (by omega) (by omega) t1
  obtain ⟨a0, a1, a2, a3, ca, a4, a5⟩ := h.coinS fm (i := 2) (by omega) (by omega) t2 pt hid
  have RV := h.2.1.coin4 (F := F) hF h.nw (by omega) h.h64 rfl rfl b0 a0 a2 pb1 a4 (by omega) 256
  have CV := h.2.2.1.coin4 (F := F) (by omega) a1 b1 a3 pb2 (by omega) (m, 0, 256, 0, false) (m + 2, 0, 256, 0, false)
  rw [a5, pb4] at CV
  by_cases c : g + 5 ≤ lim
  · have RV2 := RV.2 c
    have CV2 := CV.2 c
    have tA := h.coinT fm (i := 2) (by omega) (by omega) t2 pt hid
    generalize hva : (H ca).2.2.1 = va at RV2 CV2
    generalize (H ((fr (nf - 1)).2.2.1.2 ((fr (nf - 1)).2.2.1.1 - 1)).1).2.2.1 = vb at RV2 CV2
    cases q : ult va vb
    · obtain ⟨z1, w1, w2, w3⟩ := RV2.2 q
      obtain ⟨z2, d1, d2, d3⟩ := CV2.2 q
      have h' := h
      have I1 := h.1.m0.coin hE hC 2 (va - vb)
      have I2' := I1.coin hE hC 0 vb
      rw [setF_s, setF_2] at I2'
      have I2 := h.1.split hE hC (va := va) (vb := vb) (by omega) a0 tA a4 hva q I2'
      obtain ⟨I, _, cm0, cj, r, sr, an, na2, rn, rm1, rm2⟩ := h
      have r1 := r.coin h'.ht h'.hcu rn (v0 := va - vb)
      have r2 := RC.coin (m := m + 2) (u := mc + 1) (v0 := vb) r1 I1.2.1 (fun i hi => by
        by_cases y : i = mc
        · omega
        · rw [upH_n y] at hi; have := h'.hcu i hi; omega) (fun j t w => by have := rn j t w; omega)
      have sm : ∀ v, SMt U.2.2.2.1 (v, 0, 256, 0, false) ([6, k2], 0, false) := fun v => ⟨(sR_p pt2).symm, by rw [sT_s, hid2], fun q => absurd (pt2.hd.2.symm.trans q) (by decide)⟩
      have sm3 : ∀ v, SMt U.2.2.2.1 (v, 0, 256, 0, false) ([6, k3], 0, false) := fun v => ⟨(sR_p pt3).symm, by rw [sT_s, hid3], fun q => absurd (pt3.hd.2.symm.trans q) (by decide)⟩
      have sr1 := sr.psh (phi' := fun i => if i = m then mc else phi i) (Rn' := Rn) (v := mc) (s := (m, 0, 256, 0, false)) h'.nf0 (a := (fr (nf - 1)).2.2.1.1 - 2) (by omega) (fun x d k t c w _ _ => by
        have hs := h'.slot w
        have sl := sr.1 _ _ _ _ _ w
        exact ⟨fun z => by simp only [if_neg (show t.1 ≠ m by omega)]; exact sl.1 z, sl.2⟩) ⟨fun _ => by simp, fun q => absurd rfl q⟩ (fun q => absurd rfl q)
      have et : (pshV (setH (fr (nf - 1)) ((fr (nf - 1)).2.2.1.1 - 2)) (m, 0, 256, 0, false)).2.2.1.1 = (fr (nf - 1)).2.2.1.1 - 1 := by
        show (fr (nf - 1)).2.2.1.1 - 2 + 1 = _
        omega
      have lt1 : ∀ x d k t c, Vs (setF fr (nf - 1) (pshV (setH (fr (nf - 1)) ((fr (nf - 1)).2.2.1.1 - 2)) (m, 0, 256, 0, false))) (up2 cs (nf - 1) ((fr (nf - 1)).2.2.1.1 - 2) mc) cl nf x d k = some (t, c) → t.1 < m + 2 := fun x d k t c w => by
        obtain ⟨v1, v2⟩ := Vs_c w
        obtain ⟨j1, j2, _⟩ := I1.2.2.1 d v1
        have st : SlT (coH H m (va - vb)) (coTy ty m) t := by
          rcases v2 with ⟨_, a2, a3, _⟩ | ⟨_, a2, _⟩
          · rw [a3]; exact j1 _ a2
          · exact (j2 _ t a2).2
        exact (I1.2.1.2 _ st.1).1
      have sr2 := sr1.psh (phi' := fun i => if i = m + 2 then mc + 1 else if i = m then mc else phi i) (Rn' := Rn) (v := mc + 1) (s := (m + 2, 0, 256, 0, false)) h'.nf0 (a := (fr (nf - 1)).2.2.1.1 - 1) (by rw [setF_s, et]; omega) (fun x d k t c w _ _ => by
        have hs := lt1 _ _ _ _ _ w
        have sl := sr1.1 _ _ _ _ _ w
        exact ⟨fun z => by simp only [if_neg (show t.1 ≠ m + 2 by omega)]; exact sl.1 z, sl.2⟩) ⟨fun _ => by simp, fun q => absurd rfl q⟩ (fun q => absurd rfl q)
      rw [setF_s, setF_2] at sr2
      have eh : setH (pshV (setH (fr (nf - 1)) ((fr (nf - 1)).2.2.1.1 - 2)) (m, 0, 256, 0, false)) ((fr (nf - 1)).2.2.1.1 - 1) = pshV (setH (fr (nf - 1)) ((fr (nf - 1)).2.2.1.1 - 2)) (m, 0, 256, 0, false) := by
        rw [← et]; rfl
      rw [eh] at sr2
      refine ⟨z1, z2, w1, d1, w3, d3.x, .inr ⟨_, m + 4, _, _, na, ak, g + 5, _, mc + 2, _, Rn, _, cl, cn, ⟨I2, w2, d2, cj.fc d3, r2, sr2, ?_, na2.coin.coin, fun j t w => by have := rn j t w; omega, by omega, by omega⟩, AkL.same (by omega), rfl, rfl, rfl, ((fm.drop 2).psh hp (sm m) (.inl pt2)).psh hp2 (sm3 (m + 2)) (.inl pt3)⟩⟩
      intro j hj h3 ht2
      have al := (I.2.2.2.2.1 j hj h3 ht2).1
      have := (I.2.1.2 _ al).1
      simp only [if_neg (show (ak j).2.2.2.2.2 ≠ m + 2 by omega), if_neg (show (ak j).2.2.2.2.2 ≠ m by omega)]
      exact an j hj h3 ht2
    · obtain ⟨z1, w1, w2, w3⟩ := RV2.1 q
      obtain ⟨z2, d1, d2, d3⟩ := CV2.1 q
      exact Out.end 1 2 (g + 5) (.inl rfl) w1 d1 w2 d2 w3 d3.x
  · obtain ⟨z1, w1, w2, w3⟩ := RV.1 (by omega)
    obtain ⟨z2, d1, d2, d3⟩ := CV.1 (by omega)
    exact Out.end 2 5 lim (.inr rfl) w1 d1 w2 d2 w3 d3.x
end
