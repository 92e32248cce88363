/-! THE REFERENCE'S MACHINE: hash (59) -/
section
variable {F n : Nat} {sh : Nat → Nat × Nat} {z z1 z' : St} {H : Hp} {m : Nat} {fr : Nat → Fm} {nf na : Nat} {ak : Nat → Ask} {g lim : Nat}
theorem dgM_of (hL : Lay sh n z) : DgM sh n z.2.2 372 373 374 375 := ⟨by have := hL.1; omega, by rw [hL.2.1 372 (by omega)]; rfl, by have := hL.1; omega, by rw [hL.2.1 373 (by omega)]; rfl, by have := hL.1; omega, by rw [hL.2.1 374 (by omega)]; rfl, by have := hL.1; omega, by rw [hL.2.1 375 (by omega)]; rfl, hL.2.2 372 0 373 rfl, hL.2.2 372 2 374 rfl, hL.2.2 372 3 375 rfl, by decide, by decide⟩
theorem RM.dig (h : RM sh n z H m fr nf na ak g lim) (f : frM z z' 372 373 374 375) : RM sh n z' H m fr nf na ak g lim ∧ FrR z z' := by
  have k1 : ∀ k, k < 372 ∨ 375 < k → z'.1 k = z.1 k ∧ z'.2.1 k = z.2.1 k := fun k hk => ⟨f.1 k (by omega) (by omega), f.2.1 k (by omega) (by omega)⟩
  refine ⟨h.mov f.2.2 (k1 337 (by omega)).1 (fun k a b => (k1 k (by omega)).1) (fun k a b => (k1 k (by omega)).2) (h.2.2.1.fr (fun k a b => (k1 k (by omega)).1) (fun k a b => (k1 k (by omega)).2)), ⟨f.2.2, fun k a b => k1 k ?_, fun j _ => by rw [(k1 337 (by omega)).1, (k1 337 (by omega)).2]; exact ⟨rfl, rfl⟩⟩⟩
  have : ¬ (368 ≤ k ∧ k ≤ 375) := fun q => b (.inr (.inl q))
  omega
theorem dig50 {b : Nat → Int32} : ∀ cs k f z0, RM sh n z0 H m fr nf na ak g lim → chm z0 (hm1 cs) cs → MI sh n z0 372 373 374 375 b k → k + cs.length ≤ 3900 → cs.length < f → (∀ i (hi : i < cs.length), (H cs[i]).1 ≠ 0 ∧ ((H cs[i]).2.2.1).toInt32 &&& 255 = b (k + i) &&& 255) → ∃ z' f', fn_X18_digest_L50 F sh n 337 f z0 (hm1 cs) = fn_X18_digest_L50 F sh n 337 (f' + 1) z' (-1) ∧ RM sh n z' H m fr nf na ak g lim ∧ MI sh n z' 372 373 374 375 b (k + cs.length) ∧ FrR z0 z' := by
  intro cs
  induction cs with
  | nil =>
    intro k f z0 h hc I hk hf hb
    obtain ⟨f', rfl⟩ : ∃ q, f = q + 1 := ⟨f - 1, by have : ([] : List Nat).length = 0 := rfl; omega⟩
    exact ⟨z0, f', rfl, h, I, FrR.rfl'⟩
  | cons c cs ih =>
    intro k f z0 h hc I hk hf hb
    simp only [List.length_cons] at hk hf
    obtain ⟨f', rfl⟩ : ∃ q, f = q + 1 := ⟨f - 1, by omega⟩
    obtain ⟨_, _, c3⟩ := hc
    obtain ⟨al, hx⟩ := hb 0 (by simp)
    simp only [List.getElem_cons_zero, Nat.add_zero] at al hx
    obtain ⟨z1, a1, a2, a3, a4⟩ := add_t (F := F) I (by omega) hx
    obtain ⟨R1, f1⟩ := h.dig a4
    obtain ⟨b1, b2⟩ := h.2.2.1.i1 al
    have e354 : z1.1 354 = z0.1 354 := a4.1 354 (by decide) (by decide)
    have eh := chm_hd c3
    obtain ⟨z', f2, q1, q2, q3, q4⟩ := ih (k + 1) f' z1 R1 (by rw [← eh]; exact chm_of c3 (fun x _ => by rw [e354])) a2 (by omega) (by omega) (fun i hi => by
      have := hb (i + 1) (by simp; omega)
      simp only [List.getElem_cons_succ] at this
      rw [show k + 1 + i = k + (i + 1) by omega]
      exact this)
    refine ⟨z', f2, ?_, q2, by rw [List.length_cons, show k + (cs.length + 1) = k + 1 + cs.length by omega]; exact q3, f1.trans q4⟩
    rw [← q1]
    have L0 := h.1
    have L1 := R1.1
    have t0 := b_trees L0
    have t1 := b_trees L1
    have oa : okA sh n 352 102 (nI c) = true := by rw [lay_a L0 352 102 24576 (by decide) rfl]; exact b1
    have ob' : okA sh n 354 101 (nI c) = true := by rw [lay_a L0 354 101 24576 (by decide) rfl]; exact b1
    have r3 := (h.2.2.1.row al).2.2.1
    conv => lhs; unfold fn_X18_digest_L50
    rw [show hm1 (c :: cs) = nI c from rfl, if_neg (nI_m1 (by have := (h.2.2.1.lt al).2; omega)), L0.2.2 337 18 372 rfl, lnk_s, L0.2.2 337 15 349 rfl, lnk_s, t0.1, grd_true, t0.2.2.2.1, lnk_s, oa, grd_true, (b_digr L0).1, grd_true, b2, r3, a1, cal_s, L1.2.2 337 15 349 rfl, lnk_s, t1.1, grd_true, t1.2.2.2.2.2.1, lnk_s, ob', grd_true, lt_t, e354, eh]
/-- the byte of a digest -/
def dgB (w : Nat → Int64) (i : Nat) : Int32 := (((w (nI i / 4).toNatClampNeg) >>> (((24 - (8 * (nI i - nI i / 4 * 4))) : Int32).toInt64 &&& 63)) &&& 255 : Int64).toInt32
theorem q4_ok : ∀ i, i < 32 → okI (nI i / 4) 8 = true := by decide
/-- a vector of bytes, as far as p -/
def dgH (H : Hp) (m : Nat) (w : Nat → Int64) (p : Nat) : Hp := fun i => if i = m then (7, 0, 0, (List.range p).map (fun k => m + 1 + k)) else if m < i ∧ i ≤ m + p then (2, 0, (dgB w (i - m - 1)).toInt64, []) else H i
theorem dgH_m {w : Nat → Int64} {p : Nat} : dgH H m w p m = (7, 0, 0, (List.range p).map (fun k => m + 1 + k)) := if_pos rfl
theorem dgH_s {w : Nat → Int64} {p : Nat} : upH (upH (dgH H m w p) (m + 1 + p) (2, 0, (dgB w p).toInt64, [])) m (setC ((upH (dgH H m w p) (m + 1 + p) (2, 0, (dgB w p).toInt64, [])) m) (kds (upH (dgH H m w p) (m + 1 + p) (2, 0, (dgB w p).toInt64, [])) m ++ [m + 1 + p])) = dgH H m w (p + 1) := by
  have n1 : m ≠ m + 1 + p := by omega
  have km : kds (upH (dgH H m w p) (m + 1 + p) (2, 0, (dgB w p).toInt64, [])) m = (List.range p).map (fun k => m + 1 + k) := by unfold kds; rw [upH_n n1, dgH_m]
  funext i
  by_cases q : i = m
  · subst q
    rw [upH_s, km, upH_n n1, dgH_m, dgH_m, List.range_succ, List.map_append]
    rfl
  · rw [upH_n q]
    by_cases q2 : i = m + 1 + p
    · subst q2
      rw [upH_s]
      unfold dgH
      rw [if_neg q, if_pos (by omega), show m + 1 + p - m - 1 = p by omega]
    · rw [upH_n q2]
      unfold dgH
      rw [if_neg q, if_neg q]
      by_cases c : m < i ∧ i ≤ m + p
      · rw [if_pos c, if_pos (by omega)]
      · rw [if_neg c, if_neg (by omega)]
theorem dig106 (hF : 300 ≤ F) {w : Nat → Int64} (t : Nat) (hm : m + 33 ≤ 24576) (h64 : (fr (nf - 1)).2.2.1.1 < 64) : ∀ r p f z0, p + r = 32 → r < f → RM sh n z0 (dgH H m w p) (m + 1 + p) fr nf na ak g lim → Nw (dgH H m w p) (m + 1 + p) → (∀ j, j < 8 → z0.2.1 374 j = w j) → ∃ z', fn_X18_digest_L106 F sh n 337 (nI m) f z0 (nI p) = some (z', ()) ∧ RM sh n z' (dgH H m w 32) (m + 33) (setF fr (nf - 1) (pshV (fr (nf - 1)) (m, 0, t, 0, false))) nf na ak g lim ∧ FrR z0 z' := by
  intro r
  induction r with
  | zero =>
    intro p f z0 e hf h _ _
    obtain ⟨f', rfl⟩ : ∃ q, f = q + 1 := ⟨f - 1, by omega⟩
    have ep : p = 32 := by omega
    subst ep
    obtain ⟨z', q1, q2, q3⟩ := h.push (F := F) (m, 0, t, 0, false) h64
    rw [rB0 rfl] at q1
    refine ⟨z', ?_, q2, q3⟩
    unfold fn_X18_digest_L106
    rw [if_pos ((nIge (x := 32) 32 rfl (by omega) (by omega)).mpr (by omega)), show fn_X18_push F sh n z0 337 (nI m) 0 = some (z', ()) from q1, cal_s]
  | succ r ih =>
    intro p f z0 e hf h hw hz
    obtain ⟨f', rfl⟩ : ∃ q, f = q + 1 := ⟨f - 1, by omega⟩
    have L0 := h.1
    have mk := makeM_t (F := F) (k := 2) (x := 0) (y := (dgB w p).toInt64) L0 h.2.2.1.1 (by omega) (by omega)
    obtain ⟨a1, a2⟩ := h.tree (mm_fr (m := m + 1 + p) (k := nI 2) (x := 0) (y := (dgB w p).toInt64)) (mm_H h.2.2.1 (by omega) (by omega))
    obtain ⟨w1, w2, _⟩ := hw.mk (k := 2) (x := 0) (y := (dgB w p).toInt64) (by omega)
    have n1 : m ≠ m + 1 + p := by omega
    have mal : ((upH (dgH H m w p) (m + 1 + p) (2, 0, (dgB w p).toInt64, [])) m).1 ≠ 0 := by rw [upH_n n1, dgH_m]; simp
    have cal' : ((upH (dgH H m w p) (m + 1 + p) (2, 0, (dgB w p).toInt64, [])) (m + 1 + p)).1 ≠ 0 := by rw [upH_s]; simp
    have km : kds (upH (dgH H m w p) (m + 1 + p) (2, 0, (dgB w p).toInt64, [])) m = (List.range p).map (fun k => m + 1 + k) := by unfold kds; rw [upH_n n1, dgH_m]
    have ad := tadd_t (F := F) hF a1.1 a1.2.2.1 mal cal' (w2 m)
    have hH := ad_H a1.2.2.1 mal cal' w2 (by rw [km, List.length_map, List.length_range]; omega) (by
      rw [km]
      refine List.Pairwise.map _ (fun a b hab => hab) ?_
      refine List.Pairwise.imp (fun {a b} hab => ?_) (List.nodup_range)
      omega) w1.1
    obtain ⟨c1, c2⟩ := a1.tree ad_fr hH
    obtain ⟨u1, _⟩ := w1.add mal cal' w2
    rw [dgH_s] at c1 u1
    have z374 : ∀ j, j < 8 → (adS (mmS z0 (m + 1 + p) (nI 2) 0 (dgB w p).toInt64) m (m + 1 + p) (kds (upH (dgH H m w p) (m + 1 + p) (2, 0, (dgB w p).toInt64, [])) m)).2.1 374 j = w j := fun j hj => by
      rw [(ad_fr.2 374 (by omega)).2, (mm_fr.2 374 (by omega)).2]; exact hz j hj
    obtain ⟨z', q1, q2, q3⟩ := ih (p + 1) f' _ (by omega) (by omega) c1 u1 z374
    refine ⟨z', ?_, q2, (a2.trans c2).trans q3⟩
    have dg := b_digr L0
    have o8 := q4_ok p (by omega)
    have k8 : (nI p / 4).toNatClampNeg < 8 := by
      have : ∀ i, i < 32 → (nI i / 4).toNatClampNeg < 8 := by decide
      exact this p (by omega)
    have bo : fn_X12_byteOf F sh n z0 372 (nI p) = some (z0, dgB w p) := by
      unfold fn_X12_byteOf dgB
      rw [dg.1, grd_true, dg.2.2.1, lnk_s, lay_a L0 374 102 8 (by decide) rfl, o8, grd_true, hz _ k8]
    unfold fn_X18_digest_L106
    rw [if_neg (fun q => by have := (nIge (x := 32) 32 rfl (by omega) (by omega)).mp q; omega), L0.2.2 337 15 349 rfl, lnk_s, lnk_s, L0.2.2 337 18 372 rfl, lnk_s, dg.1, grd_true, bo, cal_s, (b_trees L0).1, grd_true, show (2 : Int32) = nI 2 from rfl, mk, cal_s, grd_true, ad, cal_s, nI_1]
    exact q1
/-- 59 -/
theorem RM.hash (hF : 300 ≤ F) (h : RM sh n z H m fr nf na ak g lim) (w : Nw H m) (h1 : 1 ≤ (fr (nf - 1)).2.2.1.1) (h64 : (fr (nf - 1)).2.2.1.1 ≤ 64) {v : Nat} (ev : ((fr (nf - 1)).2.2.1.2 ((fr (nf - 1)).2.2.1.1 - 1)).1 = v) (h0 : ((fr (nf - 1)).2.2.1.2 ((fr (nf - 1)).2.2.1.1 - 1)).2.1 = 0) (ha : (H v).1 = 7) (hm : m + 33 ≤ 24576) (t : Nat) {b : Nat → Int32} (hb : ∀ i (hi : i < (kds H v).length), ((H (kds H v)[i]).2.2.1).toInt32 &&& 255 = b i &&& 255) : (lim < g + (32 + (kds H v).length) → ∃ z', fn_X18_digest F sh n z 337 = some (z', ()) ∧ RE sh n z' 2 5 lim ∧ FrR z z') ∧ (g + (32 + (kds H v).length) ≤ lim → ∃ z' wd, fn_X18_digest F sh n z 337 = some (z', ()) ∧ (∀ j, j < 8 → wd j = ux (HS (pb b (kds H v).length) (((kds H v).length + 9 + pz (kds H v).length) / 64) j)) ∧ RM sh n z' (dgH H m wd 32) (m + 33) (setF fr (nf - 1) (pshV (setH (fr (nf - 1)) ((fr (nf - 1)).2.2.1.1 - 1)) (m, 0, t, 0, false))) nf na ak (g + (32 + (kds H v).length)) lim ∧ FrR z z') := by
  have hal : (H v).1 ≠ 0 := by omega
  have len := h.2.2.1.len hal
  obtain ⟨z1, p1, p2, p3⟩ := h.takeK (F := F) h1 h0 (by rw [ev]; exact hal)
  rw [ev, ha] at p1
  have ct := count_t (F := F) hF p2.1 p2.2.2.1 hal
  have c32 : (32 : Int32) + nI (kds H v).length = nI (32 + (kds H v).length) := by rw [show (32 : Int32) = nI 32 from rfl, nI_add]
  constructor
  · intro hg
    obtain ⟨z2, s1, s2, s3⟩ := p2.spendE (F := F) hg (by omega)
    refine ⟨z2, ?_, s2, p3.trans s3⟩
    unfold fn_X18_digest
    rw [(b_model h.1).1, grd_true, show (7 : Int32) = nI 7 from rfl, p1, cal_s, p2.goes, cal_s, if_neg one0, p2.1.2.2 337 15 349 rfl, lnk_s, (b_trees p2.1).1, grd_true, ct, cal_s, c32, s1, cal_s, if_pos rfl]
  · intro hg
    obtain ⟨z2, s1, s2, s3⟩ := p2.spend (F := F) hg
    obtain ⟨z3, b1, b2, _, b4⟩ := beg_t (F := F) (dgM_of s2.1) b
    obtain ⟨R3, f3⟩ := s2.dig b4
    obtain ⟨_, _, _, r4, r5⟩ := R3.2.2.1.row hal
    obtain ⟨x1, x2⟩ := R3.2.2.1.i1 hal
    obtain ⟨z4, f', q1, q2, q3, q4⟩ := dig50 (F := F) (b := b) (kds H v) 0 F z3 R3 r5 b2 (by omega) (by omega) (fun i hi => ⟨R3.2.2.1.cl hal _ (List.getElem_mem hi), by rw [Nat.zero_add]; exact hb i hi⟩)
    rw [Nat.zero_add] at q3
    obtain ⟨z5, e1, e2, e3, e4⟩ := end_t (F := F) q3 (by omega) (by omega)
    obtain ⟨R5, f5⟩ := q2.dig e4
    have mk := makeM_t (F := F) (k := 7) (x := 0) (y := 0) R5.1 R5.2.2.1.1 (by omega) (by omega)
    obtain ⟨a1, a2⟩ := R5.tree (mm_fr (m := m) (k := nI 7) (x := 0) (y := 0)) (mm_H R5.2.2.1 (by omega) (by omega))
    obtain ⟨w1, _, _⟩ := w.mk (k := 7) (x := 0) (y := 0) (by omega)
    have e0 : upH H m (7, 0, 0, []) = dgH H m (z5.2.1 374) 0 := by
      funext i
      unfold dgH
      by_cases q : i = m
      · subst q; rw [upH_s, if_pos rfl]; rfl
      · rw [upH_n q, if_neg q, if_neg (by omega)]
    rw [e0] at a1 w1
    obtain ⟨z6, l1, l2, l3⟩ := dig106 (F := F) hF (w := z5.2.1 374) t hm (by rw [setF_s, setH_T]; omega) 32 0 F _ (by omega) (by omega) a1 w1 (fun j _ => by rw [(mm_fr.2 374 (by omega)).2])
    rw [setF_s, setF_2] at l2
    refine ⟨z6, z5.2.1 374, ?_, e3, l2, ((((p3.trans s3).trans f3).trans q4).trans f5).trans (a2.trans l3)⟩
    have oa : okA sh n 353 101 (nI v) = true := by rw [lay_a R3.1 353 101 24576 (by decide) rfl]; exact x1
    unfold fn_X18_digest
    rw [(b_model h.1).1, grd_true, show (7 : Int32) = nI 7 from rfl, p1, cal_s, p2.goes, cal_s, if_neg one0, p2.1.2.2 337 15 349 rfl, lnk_s, (b_trees p2.1).1, grd_true, ct, cal_s, c32, s1, cal_s, if_neg one0, s2.1.2.2 337 18 372 rfl, lnk_s, (b_digr s2.1).1, grd_true, b1, cal_s, R3.1.2.2 337 15 349 rfl, lnk_s, (b_trees R3.1).1, grd_true, (b_trees R3.1).2.2.2.2.1, lnk_s, oa, grd_true, lt_t, x2, r4, q1]
    unfold fn_X18_digest_L50
    rw [if_pos rfl, q2.1.2.2 337 18 372 rfl, lnk_s, (b_digr q2.1).1, grd_true, e1, cal_s, R5.1.2.2 337 15 349 rfl, lnk_s, (b_trees R5.1).1, grd_true, show (7 : Int32) = nI 7 from rfl, mk, cal_s]
    exact l1
end
