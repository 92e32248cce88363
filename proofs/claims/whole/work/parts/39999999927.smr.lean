/-! BOTH MACHINES SIDE BY SIDE: new trees; the hash (59) -/
section
variable {E : Ev} {F n : Nat} {sh : Nat → Nat × Nat} {pk : Nat → Nat} {kt : Nat} {sl0 : Int32} {lim e : Nat} {zr zc zr' zc' : St} {H : Hp} {m : Nat} {ty : Nat → Nat} {fr : Nat → Fm} {nf na : Nat} {ak : Nat → Ask} {g g' : Nat} {Hc : Hp} {mc : Nat} {phi : Nat → Nat} {Rn : Nat → Option Nat} {cs cl : Nat → Nat → Nat} {cn : Nat → Nat} {ws : Nat → Int64 → Nat → Bool} {u : Nat} {U : Md} {ls : List Ty} {L L' : Lks} {R C : Option (St × Unit)}
/-- c are taken, a new tree is given; places may change but for the resources that are there -/
theorem Out.blk (h : Sm E sh n pk kt sl0 lim 1 zr zc H m ty fr nf na ak g Hc mc phi Rn cs cl cn ws) (fm : FM U ls (fr (nf - 1)) L) {c t : Nat} {T : Ty} {H' : Hp} {m' : Nat} {ty' : Nat → Nat} {ak' : Nat → Ask} {Hn : Hp} {mc' : Nat} {phi' : Nat → Nat} (hc : c ≤ L.1.1) (mj : MJ E H' m' ty' (setF fr (nf - 1) (pshV (setH (fr (nf - 1)) ((fr (nf - 1)).2.2.1.1 - c)) (m, 0, t, 0, false))) nf na ak' (fun _ => none)) (rc : RC H' ty' phi' Rn Hn) (pe : ∀ i, i < m → phi' i = phi i) (pm : phi' m = mc) (noa : NoA ty' H') (b0 : m ≤ m') (b1 : m' ≤ 8 + g' + 64 * na) (b2 : mc' ≤ 9 + g' + 64 * na) (hak : ∀ j, j < na → (ak' j).1 = 3 → (ak' j).2.2.2.2.1 = true → ak' j = ak j) (pt : PT U.1.2.2 T) (et : t = sT U.2.2.2.1 T) (hp : lPush (T, 0, false) ((L.1.1 - c, L.1.2), L.2) = .ok L') (er : R = some (zr', ())) (ec : C = some (zc', ())) (rm : RM sh n zr' H' m' (setF fr (nf - 1) (pshV (setH (fr (nf - 1)) ((fr (nf - 1)).2.2.1.1 - c)) (m, 0, t, 0, false))) nf na ak' g' lim) (cm : CM sh n zc' pk kt Hn mc' sl0 (setF fr (nf - 1) (pshV (setH (fr (nf - 1)) ((fr (nf - 1)).2.2.1.1 - c)) (m, 0, t, 0, false))) (up2 cs (nf - 1) ((fr (nf - 1)).2.2.1.1 - c) mc) cl nf g' lim) (cj : CJ zc' na ak' cn ws) (f1 : FrR zr zr') (f2 : FrX zc zc') (hl : AkL na ak g na ak' g') : Out E sh n pk kt sl0 lim zr zc fr nf na ak g ws U ls L' (fun i => i = (fr (nf - 1)).1.2.2) R C := by
  have h' := h
  obtain ⟨I, _, cm0, _, r, sr, an, na2, rn, rm1, rm2⟩ := h
  have sm : SMt U.2.2.2.1 (m, 0, t, 0, false) (T, 0, false) := ⟨(sR_p pt).symm, et, fun q => absurd (pt.hd.2.symm.trans q) (by decide)⟩
  refine ⟨zr', zc', er, ec, f1, f2, .inr ⟨H', m', ty', _, na, ak', g', Hn, mc', phi', Rn, _, cl, cn, ⟨mj, rm, cm, cj, rc, ?_, ?_, noa, fun j t w => by have := rn j t w; omega, by omega, by omega⟩, hl, rfl, rfl, rfl, (fm.drop c).psh hp sm (.inl pt)⟩⟩
  · refine sr.psh h'.nf0 (by have := fm.1; omega) (fun x d k t c w _ _ => ?_) ⟨fun _ => pm.symm, fun q => absurd rfl q⟩ (fun q => absurd rfl q)
    have hs := h'.slot w
    have sl := sr.1 _ _ _ _ _ w
    exact ⟨fun z => by rw [pe _ hs.2.1]; exact sl.1 z, sl.2⟩
  · intro j hj h3 ht2
    have e := hak j hj h3 ht2
    rw [e] at h3 ht2 ⊢
    have al := (I.2.2.2.2.1 j hj h3 ht2).1
    rw [pe _ (I.2.1.2 _ al).1]
    exact an j hj h3 ht2
theorem range_mem {m p c : Nat} (h : c ∈ (List.range p).map (fun k => m + 1 + k)) : m + 1 ≤ c ∧ c < m + 1 + p := by
  obtain ⟨k, k1, k2⟩ := List.mem_map.mp h
  have := List.mem_range.mp k1
  omega
theorem range_nd {m p : Nat} : ((List.range p).map (fun k => m + 1 + k)).Nodup := by
  rw [List.Nodup, List.pairwise_iff_getElem]
  intro i j hi hj hij q
  simp at q
  omega
theorem dgB_lt (w : Nat → Int64) {k : Nat} (hk : k < 32) : ∃ x, x < 256 ∧ (dgB w k).toInt64 = lN x := ⟨_, Nat.mod_lt _ (by decide), dgB_v hk⟩
theorem kds_dgH {w : Nat → Int64} {i : Nat} (h1 : m ≤ i) (h2 : i < m + 33) : kds (dgH H m w 32) i = if i = m then (List.range 32).map (fun k => m + 1 + k) else [] := by
  unfold kds dgH
  by_cases c : i = m
  · rw [if_pos c, if_pos c]
  · rw [if_neg c, if_neg c, if_pos ⟨by omega, by omega⟩]
theorem kds_dgC {w : Nat → Int64} {i : Nat} (h1 : m ≤ i) (h2 : i < m + 33) : kds (dgC H m w 32) i = if i = m then ((List.range 32).map (fun k => m + 1 + k)).reverse else [] := by
  unfold kds dgC
  by_cases c : i = m
  · rw [if_pos c, if_pos c]
  · rw [if_neg c, if_neg c, if_pos ⟨by omega, by omega⟩]
/-- 59 -/
theorem sim_59 (hF : 300 ≤ F) (h : Sm E sh n pk kt sl0 lim 1 zr zc H m ty fr nf na ak g Hc mc phi Rn cs cl cn ws) (hE : EvOk E) (hA : EvA E) (hU : UOk E u U) (fm : FM U ls (fr (nf - 1)) L) (h1 : 1 ≤ L.1.1) (t1 : (L.1.2 (L.1.1 - 1)).1 = [7, 2]) (hp : lPush ([7, 2], 0, false) ((L.1.1 - 1, L.1.2), L.2) = .ok L') (er0 : R = fn_X18_digest F sh n zr 337) : Out E sh n pk kt sl0 lim zr zc fr nf na ak g ws U ls L' (fun i => i = (fr (nf - 1)).1.2.2) R (fn_X4_hash F sh n zc 87) := by
  obtain ⟨rr1, rr2⟩ := h.rooms
  have hh := fm.1
  have p2 : PT U.1.2.2 [2] := ⟨by omega, by omega⟩
  have pt : PT U.1.2.2 [7, 2] := PT_v p2
  have s1 := fm.2.2.1 (L.1.1 - 1) (by omega)
  obtain ⟨b0, b1, b2, b3, b4⟩ := h.pl (k := (fr (nf - 1)).2.2.1.1 - 1) (by omega) (by rw [hh]; exact s1.1) (by rw [t1]; exact pt)
  rw [t1, sT_v p2] at b3
  have e2' : sT U.2.2.2.1 [2] = 2 := rfl
  rw [e2'] at b3
  obtain ⟨v1, v2, v3, v4, v5, v6, v7, v8⟩ := h.vec b2 b3 (by omega)
  have nw : Nw H m := ⟨h.pu, fun i c hc => (h.ht.al hc).2, fun i hi => h.ht.1 i (by
    by_cases q : (H i).1 = 0
    · exact q
    · have := (h.ht.2 i q).1; omega)⟩
  obtain ⟨o1, o2, o3⟩ := h.own hA b2 (by omega)
  have by1 : ∀ c, c ∈ kds H ((fr (nf - 1)).2.2.1.2 ((fr (nf - 1)).2.2.1.1 - 1)).1 → (Hc (phi c)).1 = 2 ∧ (Hc (phi c)).2.2.1 = (H c).2.2.1 := fun c hc => by
    have := h.prim (o3 c hc).1 (v4 c hc) (by omega) (by omega)
    exact ⟨this.2.1, this.2.2.2.1⟩
  have RV := h.2.1.hash (F := F) hF nw (by omega) h.h64 rfl b0 v1 (by omega) (2 ^ 32 + 2) (b := fun i => ((H ((kds H ((fr (nf - 1)).2.2.1.2 ((fr (nf - 1)).2.2.1.1 - 1)).1).getD i 0)).2.2.1).toInt32) (fun i hi => by simp [List.getD, hi])
  have CV := h.2.2.1.hash (F := F) hF (by omega) b1 v6 (b := fun i => ((H ((kds H ((fr (nf - 1)).2.2.1.2 ((fr (nf - 1)).2.2.1.1 - 1)).1).getD i 0)).2.2.1).toInt32) v8 (fun c hc => by
    rw [v7] at hc
    obtain ⟨x, x1, x2⟩ := List.mem_map.mp (List.mem_reverse.mp hc)
    rw [← x2]; exact (by1 x x1).1) (fun i hi => by
    have hi' := hi
    rw [v8] at hi'
    have e : (Hc (phi ((fr (nf - 1)).2.2.1.2 ((fr (nf - 1)).2.2.1.1 - 1)).1)).2.2.2[i] = phi (kds H ((fr (nf - 1)).2.2.1.2 ((fr (nf - 1)).2.2.1.1 - 1)).1)[(kds H ((fr (nf - 1)).2.2.1.2 ((fr (nf - 1)).2.2.1.1 - 1)).1).length - 1 - i] := by
      simp only [v7, List.getElem_reverse, List.getElem_map, List.length_map]
    rw [e, (by1 _ (List.getElem_mem _)).2]
    simp [List.getD, show (kds H ((fr (nf - 1)).2.2.1.2 ((fr (nf - 1)).2.2.1.1 - 1)).1).length - 1 - i < (kds H ((fr (nf - 1)).2.2.1.2 ((fr (nf - 1)).2.2.1.1 - 1)).1).length by omega]) (by omega) (m, 0, 2 ^ 32 + 2, 0, false)
  rw [er0]
  by_cases c : g + (32 + (kds H ((fr (nf - 1)).2.2.1.2 ((fr (nf - 1)).2.2.1.1 - 1)).1).length) ≤ lim
  · obtain ⟨z1, w, q1, qw, q2, q3⟩ := RV.2 c
    obtain ⟨z2, d1, d2, d3⟩ := CV.2 c w qw
    have ek := fun i (a : m ≤ i) (b : i < m + 33) => kds_dgH (H := H) (w := w) a b
    have ekc := fun i (a : mc ≤ i) (b : i < mc + 33) => kds_dgC (H := Hc) (w := w) a b
    have dm : dgH H m w 32 m = (7, 0, 0, (List.range 32).map (fun k => m + 1 + k)) := if_pos rfl
    have db : ∀ i, m < i → i < m + 33 → dgH H m w 32 i = (2, 0, (dgB w (i - m - 1)).toInt64, []) := fun i a b => by unfold dgH; rw [if_neg (by omega), if_pos ⟨a, by omega⟩]
    have dol : ∀ i, i < m → dgH H m w 32 i = H i := fun i a => by unfold dgH; rw [if_neg (by omega), if_neg (by omega)]
    have dd : ∀ i, m + 33 ≤ i → dgH H m w 32 i = (0, 0, 0, []) := fun i a => by unfold dgH; rw [if_neg (by omega), if_neg (by omega)]; exact nw.2.2 i (by omega)
    have cm' : dgC Hc mc w 32 mc = (7, 0, 0, ((List.range 32).map (fun k => mc + 1 + k)).reverse) := if_pos rfl
    have cb : ∀ i, mc < i → i < mc + 33 → dgC Hc mc w 32 i = (2, 0, (dgB w (i - mc - 1)).toInt64, []) := fun i a b => by unfold dgC; rw [if_neg (by omega), if_pos ⟨a, by omega⟩]
    have col : ∀ i, i < mc → dgC Hc mc w 32 i = Hc i := fun i a => by unfold dgC; rw [if_neg (by omega), if_neg (by omega)]
    have lt : ∀ i, m ≤ i → i < m + 33 → (dgH H m w 32 i).1 ≠ 0 ∧ LTm E (if i < m then ty i else if i = m then 2 ^ 32 + 2 else 2) (dgH H m w 32 i) ((kds (dgH H m w 32) i).map (fun i => if i < m then ty i else if i = m then 2 ^ 32 + 2 else 2)) ∧ (kds (dgH H m w 32) i).Nodup ∧ E.2.1 (if i < m then ty i else if i = m then 2 ^ 32 + 2 else 2) ≤ 38 ∧ (∀ c, c ∈ kds (dgH H m w 32) i → i < c ∧ c < m + 33) ∧ ∀ j, m ≤ j → j < m + 33 → ∀ c, c ∈ kds (dgH H m w 32) i → c ∈ kds (dgH H m w 32) j → j = i := fun i a b => by
      rw [ek i a b, if_neg (show ¬ i < m by omega)]
      by_cases q : i = m
      · subst q
        simp only [if_true]
        rw [dm]
        refine ⟨by simp, .inr (.inr (.inr (.inr (.inr (.inr (.inr ⟨by omega, rfl, rfl, rfl, fun c hc => ?_, by simp⟩)))))), range_nd, hU.2.2.2.2.2.2.1, fun c hc => ?_, fun j j1 j2 c hc hc' => ?_⟩
        · obtain ⟨x, x1, x2⟩ := List.mem_map.mp hc
          have := range_mem x1
          simp only [if_neg (show ¬ x < i by omega), if_neg (show x ≠ i by omega)] at x2
          omega
        · have := range_mem hc; omega
        · rw [ek j j1 j2] at hc'
          by_cases y : j = i
          · exact y
          · rw [if_neg y] at hc'; exact absurd hc' (by simp)
      · rw [if_neg q, if_neg q, db i (by omega) b]
        obtain ⟨x, x1, x2⟩ := dgB_lt w (k := i - m - 1) (by omega)
        exact ⟨by simp, .inr (.inl ⟨rfl, rfl, rfl, ⟨x, x1, x2⟩, rfl⟩), by simp, hU.1 2 (by omega) (by omega), fun c hc => absurd hc (by simp), fun j _ _ c hc => absurd hc (by simp)⟩
    have J := (h.1.drp 1).fresh hE (H' := dgH H m w 32) (m' := m + 33) (ty' := fun i => if i < m then ty i else if i = m then 2 ^ 32 + 2 else 2) (by omega) (fun v hv => ⟨dol v hv, if_pos hv⟩) dd lt rfl (fun i i1 i2 => by simp only [if_neg (show ¬ i < m by omega)]; split <;> omega)
    have mj := J.psh (s := (m, 0, 2 ^ 32 + 2, 0, false)) rfl rfl (by simp)
    rw [setF_s, setF_2] at mj
    have tyn := h.ht.tyn hA h.2.2.2.2.2.2.2.1
    obtain ⟨phi', Hn, hcn, rc, pe, pm⟩ := RC.new (H' := dgH H m w 32) (ty' := fun i => if i < m then ty i else if i = m then 2 ^ 32 + 2 else 2) (Hc' := dgC Hc mc w 32) (w := m) (u' := m + 33) (u := mc) (u'' := mc + 33) h.2.2.2.2.1 d2.2.1 (fun v hv => (h.ht.2 v hv).1) tyn.1 tyn.2 (fun i a b => (lt i a b).1) (fun i a => ⟨dol i a, if_pos a⟩) (fun i a => by rw [dd i a]) h.2.2.2.2.2.2.2.2.1 h.hcu col ⟨fun i a b => ⟨m, by omega, a, by rw [ek m (by omega) (by omega), if_pos rfl]; exact List.mem_map.mpr ⟨i - m - 1, List.mem_range.mpr (by omega), by omega⟩⟩, fun i j c a b a' b' hi hj => ((lt j a' b').2.2.2.2.2 i a b c hj hi), fun i c a b hc => (lt i a b).2.2.2.2.1 c hc, fun i a b => (lt i a b).2.2.1⟩ ⟨fun i j c a b a' b' hi hj => by
        rw [ekc i a b] at hi
        rw [ekc j a' b'] at hj
        by_cases x : i = mc
        · by_cases y : j = mc
          · rw [x, y]
          · rw [if_neg y] at hj; exact absurd hj (by simp)
        · rw [if_neg x] at hi; exact absurd hi (by simp), fun i c a b hc => by
        rw [ekc i a b] at hc
        by_cases x : i = mc
        · rw [if_pos x] at hc
          have := range_mem (List.mem_reverse.mp hc)
          omega
        · rw [if_neg x] at hc; exact absurd hc (by simp), fun i a b => by
        rw [ekc i a b]
        by_cases x : i = mc
        · rw [if_pos x]; exact nodup_rev range_nd
        · rw [if_neg x]; simp⟩ (by omega) (by simp) (fun i a b _ c hc => by
        have := (lt i a b).2.2.2.2.1 c hc
        simp only [if_neg (show ¬ c < m by omega)]
        split <;> omega) (fun i a b q c hc => by
        simp only [if_neg (show ¬ i < m by omega)] at q
        split at q <;> omega) (fun i a b q => by
        simp only [if_neg (show ¬ i < m by omega)] at q
        split at q <;> omega) (M := fun i j => j = mc + (i - m)) (by simp) (fun i j a b _ hM => by
        subst hM
        refine ⟨by omega, by omega, .inr ⟨?_, ?_, ?_, ?_, ?_⟩⟩
        · simp only [if_neg (show ¬ i < m by omega)]; split <;> omega
        · by_cases x : i = m
          · subst x; rw [dm, Nat.sub_self, Nat.add_zero, cm']
          · rw [db i (by omega) b, cb _ (by omega) (by omega)]
        · intro ni
          by_cases x : i = m
          · subst x; rw [dm] at ni; exact absurd (.inr rfl) ni
          · rw [db i (by omega) b, cb _ (by omega) (by omega), show mc + (i - m) - mc - 1 = i - m - 1 by omega]
            exact ⟨rfl, rfl⟩
        · rw [ek i a b, ekc _ (by omega) (by omega)]
          by_cases x : i = m
          · rw [if_pos x, if_pos (by omega)]; simp
          · rw [if_neg x, if_neg (by omega)]
        · intro t c y hc hy
          rw [ek i a b] at hc
          rw [ekc _ (by omega) (by omega)] at hy
          by_cases x : i = m
          · rw [if_pos x] at hc
            rw [if_pos (by omega), List.reverse_reverse] at hy
            by_cases tt : t < 32
            · simp [tt] at hc hy
              omega
            · rw [List.getElem?_eq_none (by simp; omega)] at hc; exact absurd hc (by simp)
          · rw [if_neg x] at hc; exact absurd hc (by simp))
    obtain ⟨w1, _⟩ := d2.heap (z' := z2) Fr.rfl' hcn
    have b1' := h.2.2.2.2.2.2.2.2.2.1
    have b2' := h.2.2.2.2.2.2.2.2.2.2
    refine Out.blk h fm (c := 1) h1 mj rc pe pm (fun v hv => ?_) (by omega) (by omega) (by omega) (fun _ _ _ _ => rfl) pt (by rw [sT_v p2]; rfl) hp q1 d1 q2 w1 (h.2.2.2.1.fd d3) q3 d3.x (AkL.same (by omega))
    by_cases x : v < m
    · simp only [if_pos x]
      rw [dol v x] at hv
      exact h.2.2.2.2.2.2.2.1 v hv
    · simp only [if_neg x]
      split <;> omega
  · obtain ⟨z1, q1, q2, q3⟩ := RV.1 (by omega)
    obtain ⟨z2, d1, d2, d3⟩ := CV.1 (by omega)
    exact Out.end 2 5 lim (.inr rfl) q1 d1 q2 d2 q3 d3.x
end
