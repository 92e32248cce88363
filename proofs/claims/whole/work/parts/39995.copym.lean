/-! THE REFERENCE'S TREES: copy -/
/-- new nodes w .. u' that copy the tree at v; o names what each copies -/
def CpM (H : Hp) (w d v : Nat) (H' : Hp) (u' : Nat) (o : Nat → Nat) : Prop := u' = w + szM H d v ∧ (∀ i, i < w → H' i = H i) ∧ (∀ i, u' ≤ i → H' i = (0, 0, 0, [])) ∧ o w = v ∧ Bl H H' w u' o ∧ ∀ i, w < i → i < u' → ∃ j, w ≤ j ∧ j < i ∧ i ∈ kds H' j
theorem szM_of {H H' : Hp} (e : ∀ i, (H i).1 ≠ 0 → H' i = H i) : ∀ {d v : Nat}, Tr H d v → szM H' d v = szM H d v
  | 0, _, _ => rfl
  | d + 1, v, t => by
    obtain ⟨t1, t2, t3⟩ := t
    unfold szM
    have ek : kds H' v = kds H v := by unfold kds; rw [e v t1]
    rw [ek]
    have : (kds H v).map (szM H' d) = (kds H v).map (szM H d) := List.map_congr_left (fun c hc => szM_of e (t3 c hc))
    rw [this]
theorem szM_pos {H : Hp} {d v : Nat} (t : Tr H d v) : 1 ≤ szM H d v := by
  cases d with
  | zero => exact absurd t (by simp [Tr])
  | succ d => unfold szM; omega
theorem Bl.pu {H H' : Hp} {w u' : Nat} {o : Nat → Nat} (b : Bl H H' w u' o) (h1 : ∀ i, i < w → H' i = H i) (h2 : ∀ i, u' ≤ i → H' i = (0, 0, 0, [])) (pu : PU H) (hlt : ∀ i c, c ∈ kds H i → c < w) : PU H' := by
  have cl : ∀ i c, c ∈ kds H' i → (i < w ∧ c ∈ kds H i ∧ c < w) ∨ (w ≤ i ∧ i < u' ∧ i < c ∧ c < u') := by
    intro i c hc
    by_cases q : i < w
    · rw [kds, h1 i q] at hc; exact .inl ⟨q, hc, hlt i c hc⟩
    · by_cases q2 : i < u'
      · have := (b i (by omega) q2).2.2.2.2.2.2.1 c hc
        exact .inr ⟨by omega, q2, this⟩
      · rw [kds, h2 i (by omega)] at hc; exact absurd hc (by simp)
  intro i j c hi hj
  rcases cl i c hi with ⟨a1, a2, a3⟩ | ⟨a1, a2, a3, a4⟩
  · rcases cl j c hj with ⟨b1, b2, b3⟩ | ⟨b1, b2, b3, b4⟩
    · exact pu i j c a2 b2
    · omega
  · rcases cl j c hj with ⟨b1, b2, b3⟩ | ⟨b1, b2, b3, b4⟩
    · omega
    · exact ((b i a1 a2).2.2.2.2.2.2.2 j b1 b2 c hi hj).symm
/-- while the parts are copied -/
def CmL (z0 : St) (H : Hp) (w v d k : Nat) (z : St) (Hm : Hp) (um : Nat) (ns : List Nat) (o : Nat → Nat) : Prop := HM z Hm um ∧ um = w + 1 + (((kds H v).take k).map (szM H d)).sum ∧ (∀ i, i < w → Hm i = H i) ∧ (∀ i, um ≤ i → Hm i = (0, 0, 0, [])) ∧ o w = v ∧ Hm w = ((H v).1, (H v).2.1, (H v).2.2.1, ns) ∧ ns.map o = (kds H v).take k ∧ ns.Nodup ∧ (∀ c, c ∈ ns → w < c ∧ c < um ∧ ∀ i, w < i → i < um → c ∉ kds Hm i) ∧ Bl H Hm (w + 1) um o ∧ (∀ i, w < i → i < um → ∃ j, w ≤ j ∧ j < i ∧ i ∈ kds Hm j) ∧ Fr 349 354 z0 z
section
variable {F n : Nat} {sh : Nat → Nat × Nat}
theorem CmL.bl {z0 : St} {H : Hp} {w v d k : Nat} {z : St} {Hm : Hp} {um : Nat} {ns : List Nat} {o : Nat → Nat} (h : CmL z0 H w v d k z Hm um ns o) (hv : (H v).1 ≠ 0) (hk : k = (kds H v).length) : Bl H Hm w um o := by
  obtain ⟨h1, h2, h3, h4, h5, h6, h7, h8, h9, hb, hc, hf⟩ := h
  have kw : kds Hm w = ns := by unfold kds; rw [h6]
  have ew : (Hm w).2.2.2 = ns := kw
  intro i i1 i2
  by_cases e : i = w
  · subst e
    rw [h5, ew, h7, hk, List.take_length, h6]
    refine ⟨hv, rfl, rfl, rfl, rfl, h8, fun c hc => ⟨(h9 c hc).1, (h9 c hc).2.1⟩, fun j j1 j2 c c1 c2 => ?_⟩
    by_cases q : j = i
    · exact q
    · exact absurd c2 ((h9 c c1).2.2 j (by omega) j2)
  · obtain ⟨b1, b2, b3, b4, b5, b6, b7, b8⟩ := hb i (by omega) i2
    refine ⟨b1, b2, b3, b4, b5, b6, b7, fun j j1 j2 c c1 c2 => ?_⟩
    by_cases q : j = w
    · subst q
      rw [ew] at c2
      exact absurd c1 ((h9 c c2).2.2 i (by omega) i2)
    · exact b8 j (by omega) j2 c c1 c2
theorem copyML_t (hF : 300 ≤ F) {z0 : St} {H : Hp} {w v d : Nat} (hL : Lay sh n z0) (hlv : ∀ i, (H i).1 ≠ 0 → i < w) (hdd : ∀ i, (H i).1 = 0 → H i = (0, 0, 0, [])) (pu : PU H) (hcl : ∀ i c, c ∈ kds H i → (H c).1 ≠ 0) (hv : (H v).1 ≠ 0) (hlen : (kds H v).length ≤ 256) (ht : ∀ c, c ∈ kds H v → Tr H d c) {rec : St → Nat → Int32 → Option (St × Int32)} (hroom : w + 1 + ((kds H v).map (szM H d)).sum ≤ 24576) (hr : ∀ z Hm um c, Lay sh n z → HM z Hm um → PU Hm → (∀ i, (Hm i).1 = 0 → Hm i = (0, 0, 0, [])) → Tr Hm d c → um + szM Hm d c ≤ 24576 → ∃ z' H' u' o, rec z 349 (nI c) = some (z', nI um) ∧ HM z' H' u' ∧ Fr 349 354 z z' ∧ CpM Hm um d c H' u' o) : ∀ k j f z Hm um ns o, j + k = (kds H v).length → k < f → CmL z0 H w v d j z Hm um ns o → ∃ z' H' u' ns' o', fn_X15_copy_L30 F sh n (nI w) rec 349 f z (hm1 ((kds H v).drop j)) = some (z', nI w) ∧ CmL z0 H w v d (kds H v).length z' H' u' ns' o' := by
  intro k
  induction k with
  | zero =>
    intro j f z Hm um ns o e hf hI
    obtain ⟨f', rfl⟩ : ∃ g, f = g + 1 := ⟨f - 1, by omega⟩
    refine ⟨z, Hm, um, ns, o, ?_, by rw [show (kds H v).length = j by omega]; exact hI⟩
    unfold fn_X15_copy_L30
    rw [List.drop_eq_nil_of_le (by omega), if_pos (show hm1 [] = -1 from rfl)]
  | succ k ih =>
    intro j f z Hm um ns o e hf hI
    obtain ⟨f', rfl⟩ : ∃ g, f = g + 1 := ⟨f - 1, by omega⟩
    have hj : j < (kds H v).length := by omega
    obtain ⟨h1, h2, h3, h4, h5, h6, h7, h8, h9, hb, hc, hfr⟩ := hI
    have hLz := hfr.lay hL
    have vw := hlv v hv
    have ev : Hm v = H v := h3 v vw
    have kv : kds Hm v = kds H v := by unfold kds; rw [ev]
    have kw : kds Hm w = ns := by unfold kds; rw [h6]
    have hvm : (Hm v).1 ≠ 0 := by rw [ev]; exact hv
    obtain ⟨_, _, _, r4, r5⟩ := h1.row hvm
    rw [kv] at r4 r5
    have rj := chm_drop r5 j
    rw [drop_c hj] at rj
    obtain ⟨_, c2, c3⟩ := rj
    have cm : (kds H v)[j] ∈ kds H v := List.getElem_mem hj
    have lq : ∀ i, (H i).1 ≠ 0 → Hm i = H i := fun i q => h3 i (hlv i q)
    have tm : Tr Hm d (kds H v)[j] := Tr_of lq (ht _ cm)
    have sm : szM Hm d (kds H v)[j] = szM H d (kds H v)[j] := szM_of lq (ht _ cm)
    have s1 := sum_take_succ hj (szM H d)
    have s2 := sum_take_le (kds H v) (j + 1) (szM H d)
    -- what stands is a forest
    have wal : (Hm w).1 ≠ 0 := by rw [h6]; exact hv
    have ddm : ∀ i, (Hm i).1 = 0 → Hm i = (0, 0, 0, []) := by
      intro i q
      by_cases a : i < w
      · rw [h3 i a] at q ⊢; exact hdd i q
      · by_cases b : i < um
        · by_cases c : i = w
          · subst c; exact absurd q wal
          · obtain ⟨b1, b2, _⟩ := hb i (by omega) b
            rw [b2] at q; exact absurd q b1
        · exact h4 i (by omega)
    have clm : ∀ i c, c ∈ kds Hm i → (i < w ∧ c ∈ kds H i ∧ c < w) ∨ (i = w ∧ c ∈ ns) ∨ (w < i ∧ i < um ∧ i < c ∧ c < um) := by
      intro i c g
      by_cases q : i < w
      · rw [kds, h3 i q] at g; exact .inl ⟨q, g, hlv c (hcl i c g)⟩
      · by_cases q1 : i = w
        · rw [q1, kw] at g; exact .inr (.inl ⟨q1, g⟩)
        · by_cases q2 : i < um
          · have := (hb i (by omega) q2).2.2.2.2.2.2.1 c g
            exact .inr (.inr ⟨by omega, q2, this⟩)
          · rw [kds, h4 i (by omega)] at g; exact absurd g (by simp)
    have pum : PU Hm := by
      intro i i' c hi hi'
      rcases clm i c hi with ⟨a1, a2, a3⟩ | ⟨a1, a2⟩ | ⟨a1, a2, a3, a4⟩
      · rcases clm i' c hi' with ⟨b1, b2, b3⟩ | ⟨b1, b2⟩ | ⟨b1, b2, b3, b4⟩
        · exact pu i i' c a2 b2
        · have := (h9 c b2).1; omega
        · omega
      · have q9 := h9 c a2
        rcases clm i' c hi' with ⟨b1, b2, b3⟩ | ⟨b1, b2⟩ | ⟨b1, b2, b3, b4⟩
        · omega
        · rw [a1, b1]
        · exact absurd hi' (q9.2.2 i' b1 b2)
      · rcases clm i' c hi' with ⟨b1, b2, b3⟩ | ⟨b1, b2⟩ | ⟨b1, b2, b3, b4⟩
        · omega
        · exact absurd hi ((h9 c b2).2.2 i a1 a2)
        · exact ((hb i (by omega) a2).2.2.2.2.2.2.2 i' (by omega) b2 c hi hi').symm
    obtain ⟨z', H', u', o', er, g1, g2, g3, g4, g5, g6, g7, g8⟩ := hr z Hm um (kds H v)[j] hLz h1 pum ddm tm (by rw [sm]; omega)
    have hLz' := g2.lay hLz
    have spos := szM_pos tm
    have umw : w < um := by omega
    have ew' : H' w = Hm w := g4 w umw
    have ev' : H' v = H v := by rw [g4 v (by omega), ev]
    have kw' : kds H' w = ns := by unfold kds; rw [ew', h6]
    have wal' : (H' w).1 ≠ 0 := by rw [ew']; exact wal
    have uml : um < u' := by omega
    have umal : (H' um).1 ≠ 0 := by
      obtain ⟨b1, b2, _⟩ := g7 um (Nat.le_refl _) uml
      rw [b2]; exact b1
    have nsum : um ∉ ns := fun q => by have := (h9 um q).2.1; omega
    have hcl' : ∀ i c, c ∈ kds Hm i → c < um := by
      intro i c hc
      rcases clm i c hc with ⟨_, _, a3⟩ | ⟨_, a2⟩ | ⟨_, _, _, a4⟩
      · omega
      · exact (h9 c a2).2.1
      · exact a4
    have pu' : PU H' := g7.pu g4 g5 pum hcl'
    have rt' : Rt H' um := by
      intro i hi
      by_cases q : i < um
      · rw [kds, g4 i q] at hi; have := hcl' i um hi; omega
      · by_cases q2 : i < u'
        · have := (g7 i (by omega) q2).2.2.2.2.2.2.1 um hi; omega
        · rw [kds, g5 i (by omega)] at hi; exact absurd hi (by simp)
    have nsl : ns.length = j := by
      have := congrArg List.length h7
      rw [List.length_map, List.length_take] at this
      omega
    have ha := tadd_t (F := F) hF hLz' g1 wal' umal (by rw [kw']; exact nsum)
    have hH := ad_H g1 wal' umal rt' (by rw [kw']; omega) (by rw [kw']; exact h8) pu'
    rw [kw'] at ha hH
    have eset : setC (H' w) (ns ++ [um]) = ((H v).1, (H v).2.1, (H v).2.2.1, ns ++ [um]) := by rw [ew', h6]; rfl
    rw [eset] at hH
    -- the next part's link
    have kv2 : kds (upH H' w ((H v).1, (H v).2.1, (H v).2.2.1, ns ++ [um])) v = kds H v := by unfold kds; rw [upH_n (by omega), ev']
    have hv2 : ((upH H' w ((H v).1, (H v).2.1, (H v).2.2.1, ns ++ [um])) v).1 ≠ 0 := by rw [upH_n (by omega), ev']; exact hv
    obtain ⟨_, _, _, _, r6⟩ := hH.row hv2
    rw [kv2] at r6
    have rj := chm_drop r6 j
    rw [drop_c hj] at rj
    obtain ⟨_, _, c6⟩ := rj
    have e6 := chm_hd c6
    unfold fn_X15_copy_L30
    rw [drop_c hj, show ∀ a as, hm1 (a :: as) = nI a from fun _ _ => rfl, if_neg (nI_m1 (by omega)), er, cal_s, ha, cal_s]
    have hLz2 : Lay sh n (adS z' w um ns) := ad_fr.lay hLz'
    simp only [b_trees hLz2, grd_true, lnk_s, lt_t, okI_nI c2 (by omega), nI_clamp (n := (kds H v)[j]) (by omega), e6]
    refine ih (j + 1) f' _ _ u' (ns ++ [um]) (fun i => if i < um then o i else if o' i < w then o' i else o (o' i)) (by omega) (by omega) ⟨hH, ?_, ?_, ?_, ?_, upH_s _ _ _, ?_, ?_, ?_, ?_, ?_, hfr.trans (g2.trans ad_fr)⟩
    · rw [s1, g3, sm]; omega
    · intro i hi; rw [upH_n (by omega), g4 i (by omega), h3 i hi]
    · intro i hi; rw [upH_n (by omega), g5 i hi]
    · simp only [if_pos umw]; exact h5
    · rw [List.map_append, List.take_succ_eq_append_getElem hj, ← h7]
      congr 1
      · exact List.map_congr_left (fun c hc => by simp only [if_pos (h9 c hc).2.1])
      · have : (kds H v)[j] < w := hlv _ (hcl v _ cm)
        simp [g6, this]
    · rw [List.nodup_append]
      refine ⟨h8, by simp, fun a ha b hb' => ?_⟩
      rw [List.mem_singleton.mp hb']
      intro q; exact nsum (q ▸ ha)
    · intro c hc
      have old : ∀ i, w < i → i < um → kds (upH H' w ((H v).1, (H v).2.1, (H v).2.2.1, ns ++ [um])) i = kds Hm i := fun i a b => by unfold kds; rw [upH_n (by omega), g4 i b]
      have new : ∀ i, um ≤ i → kds (upH H' w ((H v).1, (H v).2.1, (H v).2.2.1, ns ++ [um])) i = kds H' i := fun i a => by unfold kds; rw [upH_n (by omega)]
      rcases List.mem_append.mp hc with q | q
      · obtain ⟨a1, a2, a3⟩ := h9 c q
        refine ⟨a1, by omega, fun i i1 i2 hi => ?_⟩
        by_cases b : i < um
        · rw [old i i1 b] at hi; exact a3 i i1 b hi
        · rw [new i (by omega)] at hi
          have := (g7 i (by omega) i2).2.2.2.2.2.2.1 c hi
          omega
      · rw [List.mem_singleton.mp q]
        refine ⟨umw, uml, fun i i1 i2 hi => ?_⟩
        by_cases b : i < um
        · rw [old i i1 b] at hi; have := hcl' i um hi; omega
        · rw [new i (by omega)] at hi; exact rt' i hi
    · intro i i1 i2
      rw [upH_n (by omega)]
      by_cases b : i < um
      · obtain ⟨b1, b2, b3, b4, b5, b6, b7, b8⟩ := hb i i1 b
        have e1 : H' i = Hm i := g4 i b
        rw [e1]
        simp only [if_pos b]
        refine ⟨b1, b2, b3, b4, ?_, b6, fun c hc => ⟨(b7 c hc).1, by have := (b7 c hc).2; omega⟩, fun i' j1 j2 c c1 c2 => ?_⟩
        · rw [← b5]
          exact List.map_congr_left (fun c hc => by simp only [if_pos (b7 c hc).2])
        · rw [upH_n (by omega)] at c2
          by_cases b' : i' < um
          · rw [g4 i' b'] at c2; exact b8 i' j1 b' c c1 c2
          · have := (g7 i' (by omega) j2).2.2.2.2.2.2.1 c c2
            have := (b7 c c1).2
            omega
      · obtain ⟨b1, b2, b3, b4, b5, b6, b7, b8⟩ := g7 i (by omega) i2
        have oi : (if i < um then o i else if o' i < w then o' i else o (o' i)) = if o' i < w then o' i else o (o' i) := if_neg b
        -- what is copied stands below w
        have below : o' i < w := by
          have key : ∀ x, um ≤ x → x < u' → o' x < w ∧ Hm (o' x) = H (o' x) := by
            intro x
            induction x using Nat.strongRecOn with
            | ind x ihx =>
              intro x1 x2
              by_cases q : x = um
              · subst q
                rw [g6]
                have : (kds H v)[j] < w := hlv _ (hcl v _ cm)
                exact ⟨this, h3 _ this⟩
              · obtain ⟨p, p1, p2, p3⟩ := g8 x (by omega) x2
                obtain ⟨q1, q2⟩ := ihx p p2 p1 (by omega)
                have hm := (g7 p p1 (by omega)).2.2.2.2.1
                have : o' x ∈ (Hm (o' p)).2.2.2 := by rw [← hm]; exact List.mem_map_of_mem p3
                rw [q2] at this
                have := hlv _ (hcl (o' p) _ this)
                exact ⟨this, h3 _ this⟩
          exact (key i (by omega) i2).1
        have kids : ∀ c, c ∈ (H' i).2.2.2 → o' c < w := by
          intro c hc
          have : o' c ∈ (Hm (o' i)).2.2.2 := by rw [← b5]; exact List.mem_map_of_mem hc
          rw [h3 _ below] at this
          exact hlv _ (hcl (o' i) _ this)
        simp only [if_neg b, if_pos below]
        rw [h3 _ below] at b1 b2 b3 b4 b5
        refine ⟨b1, b2, b3, b4, ?_, b6, b7, fun i' j1 j2 c c1 c2 => ?_⟩
        · rw [← b5]
          refine List.map_congr_left (fun c hc => ?_)
          have := (b7 c hc).1
          rw [if_neg (by omega), if_pos (kids c hc)]
        · rw [upH_n (by omega)] at c2
          by_cases b' : i' < um
          · rw [g4 i' b'] at c2
            have := hcl' i' c c2
            have := (b7 c c1).1
            omega
          · exact b8 i' (by omega) j2 c c1 c2
    · intro i i1 i2
      by_cases b : i < um
      · obtain ⟨p, p1, p2, p3⟩ := hc i i1 b
        refine ⟨p, p1, p2, ?_⟩
        by_cases q : p = w
        · subst q
          rw [kw] at p3
          rw [kds, upH_s]
          exact List.mem_append_left _ p3
        · rw [kds, upH_n q, g4 p (by omega)]; exact p3
      · by_cases q : i = um
        · subst q
          exact ⟨w, Nat.le_refl _, umw, by rw [kds, upH_s]; simp⟩
        · obtain ⟨p, p1, p2, p3⟩ := g8 i (by omega) i2
          exact ⟨p, by omega, p2, by rw [kds, upH_n (by omega)]; exact p3⟩
theorem copyM_t (hF : 300 ≤ F) : ∀ d z H m v fu, Lay sh n z → HM z H m → PU H → (∀ i, (H i).1 = 0 → H i = (0, 0, 0, [])) → Tr H d v → d ≤ fu → m + szM H d v ≤ 24576 → ∃ z' H' u' o, fn_X15_copy F sh n fu z 349 (nI v) = some (z', nI m) ∧ HM z' H' u' ∧ Fr 349 354 z z' ∧ CpM H m d v H' u' o := by
  intro d
  induction d with
  | zero => intro z H m v fu _ _ _ _ t; exact absurd t (by simp [Tr])
  | succ d ih =>
    intro z H m v fu hL h pu hdd t hf hroom
    obtain ⟨f', rfl⟩ : ∃ g, fu = g + 1 := ⟨fu - 1, by omega⟩
    obtain ⟨t1, t2, t3⟩ := t
    have hsz : szM H (d + 1) v = 1 + ((kds H v).map (szM H d)).sum := rfl
    rw [hsz] at hroom
    obtain ⟨r1, r2, r3, r4, r5⟩ := h.row t1
    obtain ⟨b1, b2⟩ := h.i1 t1
    have hm : m < 24576 := by omega
    have vm := (h.lt t1).1
    have hcl : ∀ i c, c ∈ kds H i → (H c).1 ≠ 0 := fun i c hc => h.cl (fun q => by rw [kds, hdd i q] at hc; exact absurd hc (by simp)) c hc
    have mk := makeM_t (F := F) (k := (H v).1) (x := (H v).2.1) (y := (H v).2.2.1) hL h.1 hm (h.k8 t1)
    have hH := mm_H (x := (H v).2.1) (y := (H v).2.2.1) h hm (h.k8 t1)
    have hLm : Lay sh n (mmS z m (nI (H v).1) (H v).2.1 (H v).2.2.1) := mm_fr.lay hL
    have dead : ∀ i, m ≤ i → H i = (0, 0, 0, []) := fun i hi => by
      by_cases q : (H i).1 = 0
      · exact hdd i q
      · have := (h.lt q).1; omega
    have e353 : (mmS z m (nI (H v).1) (H v).2.1 (H v).2.2.1).1 353 v = hm1 (kds H v) := by
      have : v ≠ m := by omega
      simp [mmS, si_1, sl_1, this]; exact r4
    have hI : CmL z H m v d 0 (mmS z m (nI (H v).1) (H v).2.1 (H v).2.2.1) (upH H m ((H v).1, (H v).2.1, (H v).2.2.1, [])) (m + 1) [] (fun _ => v) := by
      refine ⟨hH, by simp, fun i hi => upH_n (by omega), fun i hi => by rw [upH_n (by omega)]; exact dead i (by omega), rfl, upH_s _ _ _, by simp, by simp, fun c hc => absurd hc (by simp), fun i i1 i2 => by omega, fun i i1 i2 => by omega, mm_fr⟩
    obtain ⟨z', H', u', ns', o', er, c⟩ := copyML_t (F := F) (H := H) hF (rec := fn_X15_copy F sh n f') hL (fun i q => (h.lt q).1) hdd pu hcl t1 (h.len t1) t3 (by omega) (fun z Hm um c g1 g2 g3 g4 g5 g6 => ih z Hm um c f' g1 g2 g3 g4 g5 (by omega) g6) (kds H v).length 0 F _ _ _ _ _ (by omega) (by have := h.len t1; omega) hI
    refine ⟨z', H', u', o', ?_, c.1, c.2.2.2.2.2.2.2.2.2.2.2, ?_⟩
    · unfold fn_X15_copy
      simp only [b_trees hL, grd_true, lnk_s, lt_t, b1, b2, r1, r2, r3, mk, cal_s]
      simp only [b_trees hLm, grd_true, lnk_s, lt_t, b1, e353]
      exact er
    · have bl := c.bl t1 rfl
      obtain ⟨h1, h2, h3, h4, h5, h6, h7, h8, h9, hb, hc, hfr⟩ := c
      refine ⟨by rw [h2, List.take_length, hsz]; omega, h3, h4, h5, bl, fun i i1 i2 => hc i i1 i2⟩
end
