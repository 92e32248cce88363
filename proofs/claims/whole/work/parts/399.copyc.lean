/-! the class's heap: copyOf, all of it -/
theorem copyL_t {F n : Nat} {sh : Nat → Nat × Nat} {z0 : St} {H : Hp} {w v d : Nat} {s : Int32} (hL : Lay sh n z0) (h0 : ∀ i, (H i).1 ≠ 0 → i < w) (hcl : ∀ i, (H i).1 ≠ 0 → ∀ c ∈ (H i).2.2.2, (H c).1 ≠ 0) (hv : (H v).1 ≠ 0) (hi : inn (H v).1) (ht : ∀ c ∈ (H v).2.2.2, Tr H d c) {rec : St → Nat → Int32 → Int32 → Option (St × Int32)} {x1 : Int32} (hw : w < 21600) (hroom : w + 1 + ((H v).2.2.2.map (szA H d)).sum ≤ 21600) (hr : ∀ z Hm um c, Lay sh n z → HC z Hm um s → Tr Hm d c → um + szA Hm d c ≤ 21600 → ∃ z' H' u' o, rec z 88 (nI c) (x1 + 1) = some (z', nI um) ∧ CpR z Hm um s d c z' H' u' o) : ∀ k m f z Hm um ns o, m + k = (H v).2.2.2.length → k < f → CpL z0 H w v d s m z Hm um ns o → ∃ z' H' u' ns' o', fn_X1_copyAt_L69 F sh n 88 (nI v) (nI w) rec x1 f z (nI (hd0 ((H v).2.2.2.drop m))) (nI (ltN ns)) (lN m) = some (z', nI w) ∧ CpL z0 H w v d s (H v).2.2.2.length z' H' u' ns' o' := by
  intro k
  have vw := h0 v hv
  induction k with
  | zero =>
    intro m f z Hm um ns o e hf hI
    obtain ⟨f', rfl⟩ : ∃ g, f = g + 1 := ⟨f - 1, by omega⟩
    have hLz := hI.2.2.2.2.2.2.2.2.2.2.1.lay hL
    have eV := hI.2.2.2.1 v vw
    have hvm : (Hm v).1 ≠ 0 := by rw [eV]; exact hv
    obtain ⟨a1, a2, a3, a4⟩ := hI.1.inr hvm (by rw [eV]; exact hi)
    obtain ⟨b1, b2⟩ := hI.1.i1 hvm
    rw [eV] at a1 a4
    refine ⟨z, Hm, um, ns, o, ?_, by have : m = (H v).2.2.2.length := by omega
                                     rw [← this]; exact hI⟩
    unfold fn_X1_copyAt_L69
    simp only [b_heap hLz, grd_true, lnk_s, b1, b2, a1]
    rw [if_pos ((lN_le (by omega) (by omega)).mpr (by omega))]
  | succ k ih =>
    intro m f z Hm um ns o e hf hI
    obtain ⟨f', rfl⟩ : ∃ g, f = g + 1 := ⟨f - 1, by omega⟩
    have hm : m < (H v).2.2.2.length := by omega
    have hLz := hI.2.2.2.2.2.2.2.2.2.2.1.lay hL
    have eV := hI.2.2.2.1 v vw
    have hvm : (Hm v).1 ≠ 0 := by rw [eV]; exact hv
    obtain ⟨a1, a2, a3, a4⟩ := hI.1.inr hvm (by rw [eV]; exact hi)
    obtain ⟨b1, b2⟩ := hI.1.i1 hvm
    rw [eV] at a1 a3 a4
    have q := chn_drop a3 m
    rw [drop_c hm] at q
    obtain ⟨_, q2, q3, q4⟩ := q
    have agree : ∀ i, (H i).1 ≠ 0 → Hm i = H i := fun i hi => hI.2.2.2.1 i (h0 i hi)
    have tc := ht _ (List.getElem_mem hm)
    have esz := szA_of agree tc
    have rm : um + szA Hm d (H v).2.2.2[m] ≤ 21600 := by
      have := hI.2.2.2.2.1
      have g := sum_take_succ hm (szA H d)
      have g2 := sum_take_le (H v).2.2.2 (m + 1) (szA H d)
      rw [esz]
      omega
    obtain ⟨z', H', u', o', er, cr⟩ := hr z Hm um _ hLz hI.1 (Tr_of agree tc) rm
    have st := cpL_step h0 hcl hv hI hm cr esz (by have := cr.2.2.1; omega) _ rfl
    have hLz' : Lay sh n z' := cr.2.2.2.2.2.2.2.1.lay hLz
    have lt0 : nI (ltN ns) = 0 ↔ ns = [] := by
      constructor
      · intro q
        by_cases en : ns = []
        · exact en
        · exfalso
          obtain ⟨ms, l, e⟩ : ∃ ms l, ns = ms ++ [l] := ⟨ns.dropLast, ns.getLast en, (List.dropLast_concat_getLast en).symm⟩
          have el : ltN ns = l := by rw [e]; simp [ltN]
          have lin : l ∈ ns := by rw [e]; simp
          have := hI.2.2.2.2.2.2.2.1 l lin
          have u1 := hI.1.2.2.1
          rw [el] at q
          exact nI_ne0 (by omega) (by omega) q
      · intro q; rw [q]; rfl
    rw [drop_c hm, hd0_c]
    unfold fn_X1_copyAt_L69
    simp only [b_heap hLz, grd_true, lnk_s, b1, b2, a1]
    rw [if_neg (fun q => by have := (lN_le (by omega) (by omega)).mp q; omega), if_neg (nI_ne0 q2 (by omega)), er, cal_s]
    have elast : ltN (ns ++ [um]) = um := by simp [ltN]
    have um1 : um < 21600 := by have := szA_pos (Tr_of agree tc); omega
    by_cases en : ns = []
    · rw [if_pos (lt0.mpr en)]
      rw [if_pos en] at st
      have hI1 := st.1
      have eV1 := st.2.2.2.1 v vw
      have hvm1 : (H' v).1 ≠ 0 := by rw [eV1]; exact hv
      obtain ⟨_, _, c3, _⟩ := hI1.inr hvm1 (by rw [eV1]; exact hi)
      rw [eV1] at c3
      have p := chn_drop c3 m
      rw [drop_c hm] at p
      have p5 := chn_hd p.2.2.2
      unfold fn_X1_copyAt_B123
      simp only [b_heap hLz', grd_true, lnk_s, lt_t, sl_3, okI_nI hw (by omega), nI_clamp (n := w) (by omega), nI_l (n := um) (by omega), okI_nI q3 (by omega), nI_clamp (n := (H v).2.2.2[m]) (by omega), p5, lN_1]
      have := ih (m + 1) f' _ H' u' (ns ++ [um]) _ (by omega) (by omega) st
      rw [elast] at this
      exact this
    · rw [if_neg (fun q => en (lt0.mp q))]
      rw [if_neg en] at st
      have hI1 := st.1
      have eV1 := st.2.2.2.1 v vw
      have hvm1 : (H' v).1 ≠ 0 := by rw [eV1]; exact hv
      obtain ⟨_, _, c3, _⟩ := hI1.inr hvm1 (by rw [eV1]; exact hi)
      rw [eV1] at c3
      have p := chn_drop c3 m
      rw [drop_c hm] at p
      have p5 := chn_hd p.2.2.2
      have ll : ltN ns < 21600 := by
        obtain ⟨ms, l, e⟩ : ∃ ms l, ns = ms ++ [l] := ⟨ns.dropLast, ns.getLast en, (List.dropLast_concat_getLast en).symm⟩
        have el : ltN ns = l := by rw [e]; simp [ltN]
        have lin : l ∈ ns := by rw [e]; simp
        have := hI.2.2.2.2.2.2.2.1 l lin
        omega
      unfold fn_X1_copyAt_B123
      simp only [b_heap hLz', grd_true, lnk_s, lt_t, si_3, okI_nI ll (by omega), nI_clamp (n := ltN ns) (by omega), okI_nI q3 (by omega), nI_clamp (n := (H v).2.2.2[m]) (by omega), p5, lN_1]
      have := ih (m + 1) f' _ H' u' (ns ++ [um]) _ (by omega) (by omega) st
      rw [elast] at this
      exact this
theorem copyAt_t {F n : Nat} {sh : Nat → Nat × Nat} {s : Int32} (hF : 300 ≤ F) : ∀ d z H u v dep fu, Lay sh n z → HC z H u s → Tr H d v → d + dep ≤ 40 → d ≤ fu → u + szA H d v ≤ 21600 → ∃ z' H' u' o, fn_X1_copyAt F sh n fu z 88 (nI v) (nI dep) = some (z', nI u) ∧ CpR z H u s d v z' H' u' o := by
  intro d
  induction d with
  | zero => intro z H u v dep fu _ _ t; exact absurd t (by simp [Tr])
  | succ d ih =>
    intro z H u v dep fu hL h t hd hf hroom
    obtain ⟨f', rfl⟩ : ∃ g, fu = g + 1 := ⟨fu - 1, by omega⟩
    have tt := t
    obtain ⟨t1, t2, t3⟩ := t
    obtain ⟨b1, b2⟩ := h.i1 t1
    have hk := h.k11 t1
    have pos := szA_pos tt
    have u1 : u < 21600 := by omega
    have vu := (h.lt t1).2.1
    have hmake := make_t (F := F) (k := (H v).1) (x := z.2.1 91 v) (y := z.2.1 90 v) hL h.1 h.2.1 u1 hk
    have hLm : Lay sh n (mkS z u (nI (H v).1) (z.2.1 91 v) (z.2.1 90 v)) := mk_fr.lay hL
    have k2 : (mkS z u (nI (H v).1) (z.2.1 91 v) (z.2.1 90 v)).1 89 v = nI (H v).1 := by
      have : v ≠ u := by omega
      simp [mkS, si_1, sl_1, this]; exact h.kd t1
    have dead : (H u).1 = 0 := by
      by_cases q : (H u).1 = 0
      · exact q
      · exact absurd (h.lt q).2.1 (by omega)
    have nu : ¬ (nI u = 0) := nI_ne0 (by have := h.2.1; omega) (by omega)
    unfold fn_X1_copyAt
    simp only [b_heap hL, grd_true, lnk_s, b1, b2, h.kd t1, hmake, cal_s, if_neg nu, b_heap hLm, k2]
    by_cases ci : inn (H v).1
    · obtain ⟨a1, a2, a3, a4⟩ := h.inr t1 ci
      have c10 : (H v).1 ≠ 10 := by rcases ci with e | e <;> omega
      have esz : szA H (d + 1) v = 1 + ((H v).2.2.2.map (szA H d)).sum := by unfold szA; rw [if_neg c10]
      rw [holds_i ci, cal_s, if_neg one0, if_pos ((nIlt (x := 40) 40 rfl (by omega) (by omega)).mpr (by omega))]
      have e90 : (mkS z u (nI (H v).1) (z.2.1 91 v) (z.2.1 90 v)).2.1 90 v = lN (hd0 (H v).2.2.2) := by
        have : v ≠ u := by omega
        simp [mkS, si_2, sl_2, this]; exact a2
      simp only [b_heap hLm, grd_true, lnk_s, lt_t, b1, b2, e90, lN_i, okI_nI u1 (by omega), nI_clamp (n := u) (by omega)]
      have hI : CpL z H u v d s 0 (sl (mkS z u (nI (H v).1) (z.2.1 91 v) (z.2.1 90 v)) 90 u 0) H (u + 1) [] id := by
        refine ⟨(mk_H0 h u1).off (i := 0) (fun k j _ _ => rfl) (fun j _ => rfl) (by funext j; simp [sl_2]) (fun j hj => ?_) (.inr rfl), by omega, dead, fun _ _ => rfl, by simp, by simp, by simp, fun c hc => absurd hc (by simp), fun i i1 i2 => absurd i2 (by omega), ⟨by simp [sl_1, mkS, si_1], by simp [sl_2, mkS, si_2]; exact a1, by simp [sl_2, hd0]; rfl, rfl, by simp [sl_1, mkS, si_1]⟩, mk_fr.sl (by omega), fun j hj => ?_, fun P _ _ i i1 i2 => absurd i2 (by omega)⟩
        · have : j ≠ u := fun e => by subst e; exact hj dead
          simp [sl_2, this]
        · have : j ≠ u := by omega
          simp [sl_1, sl_2, mkS, si_1, si_2, this]
      obtain ⟨z', H', u', ns, o, e1, e2⟩ := copyL_t (F := F) (H := H) (rec := fn_X1_copyAt F sh n f') (x1 := nI dep) hL (fun i hi => (h.lt hi).2.1) (fun i hi => h.cl hi) t1 ci t3 u1 (by omega) (fun z2 Hm um c l1 l2 l3 l4 => by rw [nI_1]; exact ih z2 Hm um c (dep + 1) f' l1 l2 l3 (by omega) (by omega) l4) (H v).2.2.2.length 0 F _ H (u + 1) [] id (by omega) (by omega) hI
      refine ⟨z', upH H' u ((H v).1, (H v).2.1, (H v).2.2.1, ns), u', fun i => if i = u then v else o i, e1, ?_⟩
      obtain ⟨g1, g2, g3, g4, g5, g6, g7, g8, g9, ⟨m1, m2, m3, m4, m5⟩, g11, g12, g13⟩ := e2
      rw [List.take_length] at g5 g6
      have nl : ns.length = (H v).2.2.2.length := by rw [← g6, List.length_map]
      refine ⟨g1.take g3 (by have := h.2.1; omega) g2 hk ⟨m1, fun _ => ⟨by rw [m2, ← nl], m3, m4, by rw [show (((H v).1, (H v).2.1, (H v).2.2.1, ns) : Nd).2.2.2 = ns from rfl]; omega⟩, fun q => absurd ci q⟩ (fun c hc => (g8 c hc).2.2.1) t1, g2, by omega, fun i hi => by rw [upH_n (by omega)]; exact g4 i hi, by simp, ?_, m5, g11, g12, ?_⟩
      · intro i i1 i2
        by_cases e : i = u
        · subst e
          simp only [if_true, upH_s]
          refine ⟨t1, trivial, trivial, trivial, ?_, g7, fun c hc => ⟨(g8 c hc).1, (g8 c hc).2.1⟩, fun j j1 j2 c c1 c2 => ?_⟩
          · rw [← g6]
            refine List.map_congr_left (fun c hc => ?_)
            have := (g8 c hc).1
            simp only [if_neg (show ¬ c = i by omega)]
          · by_cases q : j = i
            · exact q
            · rw [upH_n q] at c2
              exact absurd c2 ((g8 c c1).2.2.2 j (by omega) j2)
        · simp only [if_neg e]
          obtain ⟨b1, b2, b3, b4, b5, b6, b7, b8⟩ := g9 i (by omega) i2
          rw [upH_n e]
          refine ⟨b1, b2, b3, b4, ?_, b6, b7, fun j j1 j2 c c1 c2 => ?_⟩
          · rw [← b5]
            refine List.map_congr_left (fun c hc => ?_)
            have := (b7 c hc).1
            simp only [if_neg (show ¬ c = u by omega)]
          · by_cases q : j = u
            · subst q
              rw [upH_s] at c2
              exact absurd c1 ((g8 c c2).2.2.2 i (by omega) i2)
            · rw [upH_n q] at c2
              exact b8 j (by omega) j2 c c1 c2
      · intro P hP hC i i1 i2
        by_cases e : i = u
        · simp only [if_pos e]; exact hP
        · simp only [if_neg e]
          exact g13 P (fun c hc => hC v hP c hc) hC i (by omega) i2
    · rw [holds_n hk ci, cal_s, if_pos rfl]
      obtain ⟨a1, a2⟩ := h.leaf t1 ci
      refine ⟨_, upH H u ((H v).1, (H v).2.1, (H v).2.2.1, []), u + 1, fun _ => v, rfl, ?_⟩
      refine ⟨mk_H h u1 hk rfl (fun q => absurd q ci) (fun _ => ⟨a1, a2, rfl⟩), by omega, by omega, fun i hi => upH_n (by omega), rfl, ?_, by simp [mkS, si_1], mk_fr, fun j hj => ?_, fun P hP _ i _ _ => hP⟩
      · intro i i1 i2
        have e : i = u := by omega
        subst e
        rw [upH_s]
        exact ⟨t1, rfl, rfl, rfl, by rw [t2 ci]; rfl, by simp, fun c hc => absurd hc (by simp), fun j _ _ c c1 => absurd c1 (by simp)⟩
      · have : j ≠ u := by omega
        simp [mkS, si_1, si_2, sl_1, sl_2, this]
theorem copyOf_t {F n : Nat} {sh : Nat → Nat × Nat} {z : St} {H : Hp} {u : Nat} {s : Int32} (hF : 300 ≤ F) (hL : Lay sh n z) (h : HC z H u s) {d v : Nat} (t : Tr H d v) (hd : d ≤ 40) (hr : u + szA H d v ≤ 21600) : ∃ z' H' u' o, fn_X1_copyOf F sh n z 88 (nI v) = some (z', nI u) ∧ CpR z H u s d v z' H' u' o := by
  obtain ⟨z', H', u', o, e, r⟩ := copyAt_t (sh := sh) (n := n) hF d z H u v 0 48 hL h t (by omega) (by omega) hr
  refine ⟨z', H', u', o, ?_, r⟩
  unfold fn_X1_copyOf
  rw [show (0 : Int32) = nI 0 from rfl, e, cal_s]
  simp only [b_heap hL, grd_true]
