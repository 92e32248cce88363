/-! BOTH MACHINES SIDE BY SIDE: values become parts -/
theorem takes_ok : ∀ {us : List Ty} {L M : Lks}, aTakes us L = .ok M → us.length ≤ L.1.1 ∧ (∀ i (hi : i < us.length), (L.1.2 (L.1.1 - 1 - i)).1 = us[i]) ∧ M = ((L.1.1 - us.length, L.1.2), L.2)
  | [], L, M, h => by
    have : M = L := by
      unfold aTakes at h
      cases h; rfl
    subst this
    exact ⟨by simp, fun i hi => absurd hi (by simp), rfl⟩
  | u :: us, L, M, h => by
    unfold aTakes at h
    obtain ⟨N1, h1, h2⟩ := px_ok h
    obtain ⟨a1, a2, a3⟩ := takeT_ok h1
    subst a3
    obtain ⟨b1, b2, b3⟩ := takes_ok h2
    simp only at b1 b2 b3
    refine ⟨by simp; omega, fun i hi => ?_, ?_⟩
    · cases i with
      | zero => exact a2
      | succ i =>
        have := b2 i (by simp at hi; omega)
        rw [List.getElem_cons_succ, ← this, show L.1.1 - 1 - (i + 1) = L.1.1 - 1 - 1 - i by omega]
    · rw [b3]
      simp only [List.length_cons]
      congr 2
      omega
theorem takes_rev {ts : List Ty} {L M : Lks} (h : aTakes ts.reverse L = .ok M) : ts.length ≤ L.1.1 ∧ (∀ i (hi : i < ts.length), (L.1.2 (L.1.1 - ts.length + i)).1 = ts[i]) ∧ M = ((L.1.1 - ts.length, L.1.2), L.2) := by
  obtain ⟨a1, a2, a3⟩ := takes_ok h
  rw [List.length_reverse] at a1 a3
  refine ⟨a1, fun i hi => ?_, a3⟩
  have := a2 (ts.length - 1 - i) (by rw [List.length_reverse]; omega)
  rw [List.getElem_reverse] at this
  rw [show L.1.1 - ts.length + i = L.1.1 - 1 - (ts.length - 1 - i) by omega, this]
  congr 1
  omega
section
variable {E : Ev} {F n : Nat} {sh : Nat → Nat × Nat} {pk : Nat → Nat} {kt : Nat} {sl0 : Int32} {lim e : Nat} {zr zc zr' zc' : St} {H : Hp} {m : Nat} {ty : Nat → Nat} {fr : Nat → Fm} {nf na : Nat} {ak : Nat → Ask} {g g' : Nat} {Hc : Hp} {mc : Nat} {phi : Nat → Nat} {Rn : Nat → Option Nat} {cs cl : Nat → Nat → Nat} {cn : Nat → Nat} {ws : Nat → Int64 → Nat → Bool} {u : Nat} {U : Md} {ls : List Ty} {L L' : Lks} {R C : Option (St × Unit)}
def vls (fr : Nat → Fm) (nf c : Nat) : List Nat := (List.range c).map (fun i => ((fr (nf - 1)).2.2.1.2 ((fr (nf - 1)).2.2.1.1 - c + i)).1)
theorem vls_len {c : Nat} : (vls fr nf c).length = c := by simp [vls]
theorem vls_get {c i : Nat} (hi : i < (vls fr nf c).length) : (vls fr nf c)[i] = ((fr (nf - 1)).2.2.1.2 ((fr (nf - 1)).2.2.1.1 - c + i)).1 := by simp [vls]
theorem vls_mem {c v : Nat} (h : v ∈ vls fr nf c) : ∃ i, i < c ∧ v = ((fr (nf - 1)).2.2.1.2 ((fr (nf - 1)).2.2.1.1 - c + i)).1 := by
  unfold vls at h
  obtain ⟨i, h1, h2⟩ := List.mem_map.mp h
  exact ⟨i, List.mem_range.mp h1, h2.symm⟩
theorem Sm.rtv (h : Sm E sh n pk kt sl0 lim e zr zc H m ty fr nf na ak g Hc mc phi Rn cs cl cn ws) {k : Nat} (hk : k < (fr (nf - 1)).2.2.1.1) (z : ((fr (nf - 1)).2.2.1.2 k).2.1 = 0) : LvA fr nf na ak (fun _ => none) 0 (nf - 1) k = some ((fr (nf - 1)).2.2.1.2 k).1 ∧ Rt H ((fr (nf - 1)).2.2.1.2 k).1 := by
  have V2 : LvA fr nf na ak (fun _ => none) 0 (nf - 1) k = some ((fr (nf - 1)).2.2.1.2 k).1 := by
    unfold LvA
    rw [if_pos rfl, if_pos ⟨by have := h.nf0; omega, hk⟩, pln, if_pos z]
  exact ⟨V2, h.1.1.2.1 _ _ _ _ V2⟩
theorem Sm.vals (h : Sm E sh n pk kt sl0 lim e zr zc H m ty fr nf na ak g Hc mc phi Rn cs cl cn ws) (hA : EvA E) (fm : FM U ls (fr (nf - 1)) L) {c : Nat} (hc : c ≤ L.1.1) (hv : ∀ i, i < c → PT U.1.2.2 (L.1.2 (L.1.1 - c + i)).1) : Prt H m (vls fr nf c) ∧ (∀ i, i < c → ((fr (nf - 1)).2.2.1.2 ((fr (nf - 1)).2.2.1.1 - c + i)).2.1 = 0 ∧ (H ((fr (nf - 1)).2.2.1.2 ((fr (nf - 1)).2.2.1.1 - c + i)).1).1 ≠ 0 ∧ ty ((fr (nf - 1)).2.2.1.2 ((fr (nf - 1)).2.2.1.1 - c + i)).1 = sT U.2.2.2.1 (L.1.2 (L.1.1 - c + i)).1) ∧ (∀ i (hi : i < ((vls fr nf c).map phi).length), cs (nf - 1) ((fr (nf - 1)).2.2.1.1 - c + i) = ((vls fr nf c).map phi)[i]) ∧ ((vls fr nf c).map phi).Nodup ∧ (∀ w, w ∈ (vls fr nf c).map phi → (Hc w).1 ≠ 0) ∧ ∀ w, w ∈ (vls fr nf c).map phi → rootH Hc w := by
  have hh := fm.1
  have tyn := h.ht.tyn hA h.2.2.2.2.2.2.2.1
  have pl : ∀ i, i < c → ((fr (nf - 1)).2.2.1.2 ((fr (nf - 1)).2.2.1.1 - c + i)).2.1 = 0 ∧ cs (nf - 1) ((fr (nf - 1)).2.2.1.1 - c + i) = phi ((fr (nf - 1)).2.2.1.2 ((fr (nf - 1)).2.2.1.1 - c + i)).1 ∧ (H ((fr (nf - 1)).2.2.1.2 ((fr (nf - 1)).2.2.1.1 - c + i)).1).1 ≠ 0 ∧ ty ((fr (nf - 1)).2.2.1.2 ((fr (nf - 1)).2.2.1.1 - c + i)).1 = sT U.2.2.2.1 (L.1.2 (L.1.1 - c + i)).1 ∧ ((fr (nf - 1)).2.2.1.2 ((fr (nf - 1)).2.2.1.1 - c + i)).1 < m := fun i hi => by
    have s := fm.2.2.1 (L.1.1 - c + i) (by omega)
    have := h.pl (k := (fr (nf - 1)).2.2.1.1 - c + i) (by omega) (by rw [hh]; exact s.1) (hv i hi)
    exact this
  have n11 : ∀ i, i < c → ty ((fr (nf - 1)).2.2.1.2 ((fr (nf - 1)).2.2.1.1 - c + i)).1 ≠ 11 := fun i hi => by rw [(pl i hi).2.2.2.1]; exact sT_n11 (hv i hi)
  have inj : ∀ i j, i < c → j < c → ((fr (nf - 1)).2.2.1.2 ((fr (nf - 1)).2.2.1.1 - c + i)).1 = ((fr (nf - 1)).2.2.1.2 ((fr (nf - 1)).2.2.1.1 - c + j)).1 → i = j := fun i j hi hj q => by
    have a := (h.rtv (k := (fr (nf - 1)).2.2.1.1 - c + i) (by omega) (pl i hi).1).1
    have b := (h.rtv (k := (fr (nf - 1)).2.2.1.1 - c + j) (by omega) (pl j hj).1).1
    rw [← q] at b
    have := h.1.1.2.2.1 _ _ _ _ _ _ _ a b
    omega
  have nd : (vls fr nf c).Nodup := by
    rw [List.Nodup, List.pairwise_iff_getElem]
    intro i j hi hj hij q
    rw [vls_get hi, vls_get hj] at q
    rw [vls_len] at hi hj
    have := inj i j hi hj q
    omega
  refine ⟨⟨nd, h.pu, tyn.1, fun i hi => ?_, fun v hv => ?_⟩, fun i hi => ⟨(pl i hi).1, (pl i hi).2.2.1, (pl i hi).2.2.2.1⟩, fun i hi => ?_, ?_, fun w hw => ?_, fun w hw => ?_⟩
  · apply h.ht.1
    by_cases q : (H i).1 = 0
    · exact q
    · have := (h.ht.2 i q).1; omega
  · obtain ⟨i, h1, h2⟩ := vls_mem hv
    subst h2
    obtain ⟨p1, p2, p3, p4, p5⟩ := pl i h1
    exact ⟨p3, p5, (h.rtv (by omega) p1).2⟩
  · rw [List.length_map, vls_len] at hi
    rw [List.getElem_map, vls_get, (pl i hi).2.1]
  · rw [List.Nodup, List.pairwise_iff_getElem]
    intro i j hi hj hij q
    rw [List.length_map, vls_len] at hi hj
    rw [List.getElem_map, List.getElem_map, vls_get, vls_get] at q
    have := inj i j hi hj (h.2.2.2.2.1.2.1 _ _ (pl i hi).2.2.1 (n11 i hi) (pl j hj).2.2.1 (n11 j hj) q)
    omega
  · obtain ⟨v, v1, v2⟩ := List.mem_map.mp hw
    obtain ⟨i, h1, h2⟩ := vls_mem v1
    subst h2; subst v2
    exact h.2.2.2.2.1.al (pl i h1).2.2.1 (n11 i h1)
  · obtain ⟨v, v1, v2⟩ := List.mem_map.mp hw
    obtain ⟨i, h1, h2⟩ := vls_mem v1
    subst h2; subst v2
    exact h.2.2.2.2.1.rt (pl i h1).2.2.1 (n11 i h1) (h.rtv (by omega) (pl i h1).1).2 (fun w hw h256 c hc => ⟨tyn.1 w c hc, tyn.2 w hw h256 c hc⟩)
/-- c values become the parts of a new one -/
theorem Out.pack (h : Sm E sh n pk kt sl0 lim 1 zr zc H m ty fr nf na ak g Hc mc phi Rn cs cl cn ws) (hE : EvOk E) (fm : FM U ls (fr (nf - 1)) L) {c k t : Nat} {lo : Int64} {T : Ty} (hc : c ≤ L.1.1) (hpl : ∀ i, i < c → ((fr (nf - 1)).2.2.1.2 ((fr (nf - 1)).2.2.1.1 - c + i)).2.1 = 0) (hal : ∀ v, v ∈ vls fr nf c → v < m) (hk : inn k) (ht : LTm E t (k, 0, lo, vls fr nf c) ((vls fr nf c).map ty)) (h38 : E.2.1 t ≤ 38) (h256 : t ≠ 256) (h11 : t ≠ 11) (hvv : t ≠ 2 ^ 32 + 11) (pt : PT U.1.2.2 T) (et : t = sT U.2.2.2.1 T) (hp : lPush (T, 0, false) ((L.1.1 - c, L.1.2), L.2) = .ok L') (hg : g ≤ g') (er : R = some (zr', ())) (ec : C = some (zc', ())) (rm : RM sh n zr' (upH H m (k, 0, lo, vls fr nf c)) (m + 1) (setF fr (nf - 1) (pshV (setH (fr (nf - 1)) ((fr (nf - 1)).2.2.1.1 - c)) (m, 0, t, 0, false))) nf na ak g' lim) (cm : CM sh n zc' pk kt (upH Hc mc (k, 0, 0, ((vls fr nf c).map phi).reverse)) (mc + 1) sl0 (setF fr (nf - 1) (pshV (setH (fr (nf - 1)) ((fr (nf - 1)).2.2.1.1 - c)) (m, 0, t, 0, false))) (up2 cs (nf - 1) ((fr (nf - 1)).2.2.1.1 - c) mc) cl nf g' lim) (f1 : FrR zr zr') (f2 : FrD zc zc') : Out E sh n pk kt sl0 lim zr zc fr nf na ak g ws U ls L' (fun i => i = (fr (nf - 1)).1.2.2) R C := by
  have h' := h
  obtain ⟨I, _, cm0, cj, r, sr, an, na2, rn, rm1, rm2⟩ := h
  have sm : SMt U.2.2.2.1 (m, 0, t, 0, false) (T, 0, false) := ⟨(sR_p pt).symm, et, fun q => absurd (pt.hd.2.symm.trans q) (by decide)⟩
  refine ⟨zr', zc', er, ec, f1, f2.x, .inr ⟨_, m + 1, _, _, na, ak, g', _, mc + 1, _, Rn, _, cl, cn, ⟨I.pk hE (by have := fm.1; omega) hpl ht h38 h11, rm, cm, cj.fd f2, r.pack I.2.1 h'.hcu rn hal h256 h11 hk, ?_, ?_, ?_, fun j t w => by have := rn j t w; omega, by omega, by omega⟩, AkL.same (by omega), rfl, rfl, rfl, (fm.drop c).psh hp sm (.inl pt)⟩⟩
  · refine sr.psh h'.nf0 (by have := fm.1; omega) (fun x d k t c w _ _ => ?_) ⟨fun _ => by simp, fun q => absurd rfl q⟩ (fun q => absurd rfl q)
    have hs := h'.slot w
    have sl := sr.1 _ _ _ _ _ w
    exact ⟨fun z => by simp only [if_neg (show t.1 ≠ m by omega)]; exact sl.1 z, sl.2⟩
  · intro j hj h3 ht2
    have al := (I.2.2.2.2.1 j hj h3 ht2).1
    have hl := (I.2.1.2 _ al).1
    simp only [if_neg (show (ak j).2.2.2.2.2 ≠ m by omega)]
    exact an j hj h3 ht2
  · intro v hv
    by_cases c : v = m
    · simp only [if_pos c]; exact hvv
    · simp only [if_neg c]
      rw [upH_n c] at hv
      exact na2 v hv
end
