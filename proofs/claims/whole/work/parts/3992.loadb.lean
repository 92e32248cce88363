/-! the class's load -/
theorem flat_take {Es : List (List Ent)} {m : Nat} (h : m < Es.length) : (Es.take (m + 1)).flatten = (Es.take m).flatten ++ Es[m] := by
  rw [List.take_succ_eq_append_getElem h, List.flatten_append]
  simp
theorem flat_take_le (Es : List (List Ent)) (m : Nat) : (Es.take m).flatten.length ≤ Es.flatten.length := by
  conv => rhs; rw [← List.take_append_drop m Es, List.flatten_append, List.length_append]
  omega
theorem lIi {m : Nat} (h : m < 2 ^ 31) : (nI m).toInt64 = lN m := nI_l h
def LdL (z0 : St) (H : Hp) (w d a : Nat) (s : Int32) (e : Ent) (Es : List (List Ent)) (m : Nat) (z : St) (Hm : Hp) : Prop := HC z Hm (w + 1 + (Es.take m).flatten.length) s ∧ (∀ i, i < w → Hm i = H i) ∧ Hm w = (e.1, e.2.1, e.2.2.1, (sts (w + 1) (Es.take m)).reverse) ∧ (∀ p ∈ (sts (w + 1) (Es.take m)).zip (Es.take m), Enc Hm d p.1 p.2) ∧ z.1 88 5 = nI (a + 1 + (Es.take m).flatten.length) ∧ Fr 88 92 z0 z
theorem Fr.hc1 {z z' : St} (h : Fr 88 92 z z') {k : Nat} (hk : k < 88 ∨ 92 < k) : z'.1 k = z.1 k ∧ z'.2.1 k = z.2.1 k := h.2 k (by omega)
theorem loadL_t {F n : Nat} {sh : Nat → Nat × Nat} {z0 : St} {H : Hp} {w d a : Nat} {s : Int32} {e : Ent} {Es : List (List Ent)} (hL : Lay sh n z0) (h0 : ∀ i, (H i).1 ≠ 0 → i < w) (hcl : ∀ i, (H i).1 ≠ 0 → ∀ c ∈ (H i).2.2.2, (H c).1 ≠ 0) (hi : inn e.1) (hlen : Es.length = e.2.2.2.1) (h256 : e.2.2.2.1 ≤ 256) (hroom : w + 1 + Es.flatten.length ≤ 21600) (ha : a + 1 + Es.flatten.length ≤ 16384) {rec : St → Nat → Nat → Int32 → Option (St × Int32)} {x1 : Int32} (hrow : RowsC z0 Es.flatten (a + 1)) (hr : ∀ z Hm um E b, Lay sh n z → HC z Hm um s → E ∈ Es → RowsC z E b → z.1 88 5 = nI b → um + E.length ≤ 21600 → b + E.length ≤ 16384 → ∃ z' H', rec z 88 3 (x1 + 1) = some (z', nI um) ∧ HC z' H' (um + E.length) s ∧ (∀ i, i < um → H' i = Hm i) ∧ Enc H' d um E ∧ z'.1 88 5 = nI (b + E.length) ∧ Fr 88 92 z z') : ∀ k m f z Hm, m + k = Es.length → k < f → LdL z0 H w d a s e Es m z Hm → ∃ z' H', fn_X1_loadNode_L97 F sh n 1 (nI w) (lN e.2.2.2.1) rec 88 3 x1 f z (nI m) = some (z', nI w) ∧ LdL z0 H w d a s e Es Es.length z' H' := by
  intro k
  induction k with
  | zero =>
    intro m f z Hm em hf hI
    obtain ⟨f', rfl⟩ : ∃ g, f = g + 1 := ⟨f - 1, by omega⟩
    refine ⟨z, Hm, ?_, by have : m = Es.length := by omega
                          rw [← this]; exact hI⟩
    unfold fn_X1_loadNode_L97
    rw [if_neg one0, lIi (by omega), if_pos ((lN_le (by omega) (by omega)).mpr (by omega))]
  | succ k ih =>
    intro m f z Hm em hf hI
    obtain ⟨f', rfl⟩ : ∃ g, f = g + 1 := ⟨f - 1, by omega⟩
    have hm : m < Es.length := by omega
    obtain ⟨i1, i2, i3, i4, i5, i6⟩ := hI
    have hLz := i6.lay hL
    have ft := flat_take hm
    have fl := flat_take_le Es (m + 1)
    rw [ft, List.length_append] at fl
    have hrowm : RowsC z Es[m] (a + 1 + (Es.take m).flatten.length) := by
      have r1 : RowsC z Es.flatten (a + 1) := hrow.of (i6.hc1 (by omega)).1 (i6.hc1 (by omega)).2 (i6.hc1 (by omega)).2
      rw [← List.take_append_drop (m + 1) Es, List.flatten_append, ft] at r1
      exact r1.app.1.app.2
    obtain ⟨z', H', er, c1, c2, c3, c4, c5⟩ := hr z Hm _ Es[m] _ hLz i1 (List.getElem_mem hm) hrowm i5 (by omega) (by omega)
    have hLz' := c5.lay hLz
    have ww : H' w = Hm w := c2 w (by omega)
    have wal : (H' w).1 ≠ 0 := by rw [ww, i3]; simp only; rcases hi with q | q <;> omega
    have win : inn (H' w).1 := by rw [ww, i3]; exact hi
    have bk := Enc_bk c3
    have lne : Es[m].length ≠ 0 := fun e => Enc_ne c3 (List.eq_nil_of_length_eq_zero e)
    have umal : (H' (w + 1 + (Es.take m).flatten.length)).1 ≠ 0 := (bk _ (by omega) (by omega)).1
    have hroot : rootH H' (w + 1 + (Es.take m).flatten.length) := by
      intro i hi c
      by_cases q : i < w + 1 + (Es.take m).flatten.length
      · rw [c2 i q] at hi c
        have := (i1.lt (i1.cl hi _ c)).2.1
        omega
      · have i9 := (c1.lt hi).2.1
        have := ((bk i (by omega) i9).2.2.1 _ c).1
        omega
    have hwl : (H' w).2.2.2.length < 256 := by
      rw [ww, i3]
      simp only [List.length_reverse, sts_len, List.length_take]
      omega
    have es : setC (H' w) ((w + 1 + (Es.take m).flatten.length) :: (H' w).2.2.2) = (e.1, e.2.1, e.2.2.1, (sts (w + 1) (Es.take (m + 1))).reverse) := by
      rw [ww, i3, List.take_succ_eq_append_getElem hm, sts_app, List.reverse_append]
      rfl
    unfold fn_X1_loadNode_L97
    rw [if_neg one0, lIi (by omega), if_neg (fun q => by have := (lN_le (by omega) (by omega)).mp q; omega), er, cal_s, prepend_t hLz' c1 wal win umal, cal_s, nI_1]
    have hc := pp_H c1 wal win umal hroot hwl
    rw [es] at hc
    refine ih (m + 1) f' _ _ (by omega) (by omega) ⟨?_, ?_, upH_s H' _ _, ?_, ?_, i6.trans (c5.trans pp_fr)⟩
    · rw [ft, List.length_append, ← Nat.add_assoc]
      exact hc
    · intro i hi
      rw [upH_n (by omega), c2 i (by omega), i2 i hi]
    · intro p hp
      rw [List.take_succ_eq_append_getElem hm, sts_app, zip_len (sts_len _ _)] at hp
      rcases List.mem_append.mp hp with q | q
      · have pin := sts_in _ _ p q
        exact Enc_of (i4 p q) (fun i j1 j2 => by rw [upH_n (by omega), c2 i (by omega)])
      · have : p = (w + 1 + (Es.take m).flatten.length, Es[m]) := by simpa using q
        subst this
        exact Enc_of c3 (fun i j1 j2 => by rw [upH_n (by omega)])
    · rw [ft, List.length_append, ← Nat.add_assoc]
      exact c4
theorem loadNode_t {F n : Nat} {sh : Nat → Nat × Nat} {SF : Nat → List Nat} {s : Int32} (hF : 300 ≤ F) : ∀ d z H u E a dep fu, Lay sh n z → HC z H u s → TyE SF d E → RowsC z E a → z.1 88 5 = nI a → u + E.length ≤ 21600 → a + E.length ≤ 16384 → d + dep ≤ 41 → d ≤ fu → ∃ z' H', fn_X1_loadNode F sh n fu z 88 3 (nI dep) = some (z', nI u) ∧ HC z' H' (u + E.length) s ∧ (∀ i, i < u → H' i = H i) ∧ Enc H' d u E ∧ z'.1 88 5 = nI (a + E.length) ∧ Fr 88 92 z z' := by
  intro d
  induction d with
  | zero => intro z H u E a dep fu _ _ t; exact absurd t (by simp [TyE])
  | succ d ih =>
    intro z H u E a dep fu hL h t hrow hcur hroom ha hd hf
    obtain ⟨f', rfl⟩ : ∃ g, fu = g + 1 := ⟨fu - 1, by omega⟩
    obtain ⟨e, Es, t1, t2, t3, t4, t5⟩ := t
    subst t1
    rw [List.length_cons] at hroom ha
    obtain ⟨⟨r1, r2, r3⟩, r4⟩ := hrow.cons
    obtain ⟨k1, k2, k3, k4⟩ := t4.inn
    have hu1 : u < 21600 := by omega
    have b12 : (sh 12).2 = 16384 := by rw [hL.2.1 12 (by omega)]; rfl
    have c1 : ¬ (Int32.ofNat (sh 12).2 ≤ nI a) := by rw [b12]; exact nI_ge (a := a) (b := 16384) (by omega) (by omega)
    have c2 : nI dep ≤ 40 := (nIle (x := 40) 40 rfl (by omega) (by omega)).mpr (by omega)
    have oa : okI (nI a) 16384 = true := okI_nI (by omega) (by omega)
    have ca : (nI a).toNatClampNeg = a := nI_clamp (by omega)
    have dead : (H u).1 = 0 := by
      by_cases q : (H u).1 = 0
      · exact q
      · exact absurd (h.lt q).2.1 (by omega)
    unfold fn_X1_loadNode
    have o12 : okO sh n 12 100 = true := lay_o hL 12 100 16384 (by decide) rfl
    simp only [b_heap hL, b_state hL, o12, grd_true, lnk_s, lt_t, hcur, if_neg c1, if_pos c2, oa, ca, r1, r2]
    by_cases ci : inn e.1
    · rw [if_pos ci] at r2 r3
      rw [holds_i ci, cal_s, if_neg one0]
      have hm := make_t (F := F) (k := e.1) (x := 0) (y := 0) hL h.1 h.2.1 hu1 k1
      have hLm : Lay sh n (mkS z u (nI e.1) 0 0) := mk_fr.lay hL
      have cu : (mkS z u (nI e.1) 0 0).1 88 5 = nI a := by simp [mkS, si_1, sl_1]; exact hcur
      unfold fn_X1_loadNode_B70
      simp only [b_state hL, grd_true, lnk_s, hcur, oa, ca, r3, hm, cal_s, lt_t, cu, nI_1, if_pos ci]
      have hI : LdL z H u d a s e Es 0 (si (mkS z u (nI e.1) 0 0) 88 5 (nI (a + 1))) (upH H u (e.1, e.2.1, e.2.2.1, [])) := by
        have q := mk_H h hu1 (x := 0) (y := 0) (nd := (e.1, e.2.1, e.2.2.1, [])) k1 rfl (fun _ => ⟨rfl, rfl, rfl⟩) (fun q => absurd ci q)
        refine ⟨?_, fun i hi => upH_n (by omega), by rw [upH_s]; rfl, fun p hp => absurd hp (by simp [sts]), by simp [si_1], mk_fr.si (by omega)⟩
        refine ⟨by simp [si_1]; exact q.1, q.2.1, q.2.2.1, by simp [si_1]; exact q.2.2.2.1, fun i hi => ?_⟩
        obtain ⟨a1, a2, a3, ⟨d1, d2, d3⟩, a5⟩ := q.2.2.2.2 i hi
        refine ⟨a1, a2, a3, ⟨by simp [si_1]; exact d1, fun g => ?_, d3⟩, a5⟩
        obtain ⟨q1, q2, q3, q4⟩ := d2 g
        exact ⟨q1, q2, chn_of q3 (fun c _ => by simp [si_1]), q4⟩
      obtain ⟨z', H', e1, l1, l2, l3, l4, l5, l6⟩ := loadL_t (F := F) (rec := fn_X1_loadNode F sh n f') (x1 := nI dep) hL (fun i hi => (h.lt hi).2.1) (fun i hi => h.cl hi) ci t2 t3 (by omega) (by omega) r4 (fun z2 Hm um E2 b g1 g2 g3 g4 g5 g6 g7 => by rw [nI_1]; exact ih z2 Hm um E2 b (dep + 1) f' g1 g2 (t5 E2 g3) g4 g5 g6 g7 (by omega) (by omega)) Es.length 0 F _ _ (by omega) (by omega) hI
      rw [List.take_length] at l1 l3 l4 l5
      refine ⟨z', H', e1, ?_, l2, ⟨e, Es, rfl, t2, ⟨l3, k2⟩, l4⟩, ?_, l6⟩
      · rw [List.length_cons, show u + (Es.flatten.length + 1) = u + 1 + Es.flatten.length by omega]; exact l1
      · rw [List.length_cons, show a + (Es.flatten.length + 1) = a + 1 + Es.flatten.length by omega]; exact l5
    · rw [if_neg ci] at r2 r3
      have en : Es = [] := by have := k4 ci; exact List.map_eq_nil_iff.mp this
      subst en
      rw [holds_n k1 ci, cal_s, if_pos rfl]
      have hm := make_t (F := F) (k := e.1) (x := e.2.1) (y := e.2.2.1) hL h.1 h.2.1 hu1 k1
      have cu : (mkS z u (nI e.1) e.2.1 e.2.2.1).1 88 5 = nI a := by simp [mkS, si_1, sl_1]; exact hcur
      obtain ⟨f'', eF⟩ : ∃ g, F = g + 1 := ⟨F - 1, by omega⟩
      unfold fn_X1_loadNode_B70
      simp only [b_state hL, grd_true, lnk_s, hcur, oa, ca, r3, hm, cal_s, lt_t, cu, nI_1, if_neg ci]
      have q := mk_H h hu1 (x := e.2.1) (y := e.2.2.1) (nd := (e.1, e.2.1, e.2.2.1, [])) k1 rfl (fun q => absurd q ci) (fun _ => ⟨rfl, rfl, rfl⟩)
      refine ⟨si (mkS z u (nI e.1) e.2.1 e.2.2.1) 88 5 (nI (a + 1)), upH H u (e.1, e.2.1, e.2.2.1, []), ?_, ?_, fun i hi => upH_n (by omega), ⟨e, [], rfl, t2, ⟨by rw [upH_s]; rfl, k2⟩, fun p hp => absurd hp (by simp [sts])⟩, by simp [si_1], mk_fr.si (by omega)⟩
      · rw [eF]
        unfold fn_X1_loadNode_L97
        rw [if_pos rfl]
      · refine ⟨by simp [si_1]; exact q.1, q.2.1, q.2.2.1, by simp [si_1]; exact q.2.2.2.1, fun i hi => ?_⟩
        obtain ⟨a1, a2, a3, ⟨d1, d2, d3⟩, a5⟩ := q.2.2.2.2 i hi
        refine ⟨a1, a2, a3, ⟨by simp [si_1]; exact d1, fun g => ?_, d3⟩, a5⟩
        obtain ⟨q1, q2, q3, q4⟩ := d2 g
        exact ⟨q1, q2, chn_of q3 (fun c _ => by simp [si_1]), q4⟩
theorem load_t {F n : Nat} {sh : Nat → Nat × Nat} {SF : Nat → List Nat} {z : St} {H : Hp} {u : Nat} {s : Int32} (hF : 300 ≤ F) (hL : Lay sh n z) (h : HC z H u s) {d r : Nat} {E : List Ent} (t : TyE SF d E) (hd : d ≤ 40) (hrow : RowsC z E (r * 64)) (hr : r < 256) (hE : E.length ≤ 64) (hroom : u + E.length ≤ 21600) : ∃ z' H', fn_X1_load F sh n z 88 3 (nI r) = some (z', nI u) ∧ HC z' H' (u + E.length) s ∧ (∀ i, i < u → H' i = H i) ∧ Enc H' d u E ∧ Fr 88 92 z z' := by
  have hz : HC (si z 88 5 (nI (r * 64))) H u s := by
    refine ⟨by simp [si_1]; exact h.1, h.2.1, h.2.2.1, by simp [si_1]; exact h.2.2.2.1, fun i hi => ?_⟩
    obtain ⟨a1, a2, a3, ⟨d1, d2, d3⟩, a5⟩ := h.2.2.2.2 i hi
    refine ⟨a1, a2, a3, ⟨by simp [si_1]; exact d1, fun g => ?_, d3⟩, a5⟩
    obtain ⟨q1, q2, q3, q4⟩ := d2 g
    exact ⟨q1, q2, chn_of q3 (fun c _ => by simp [si_1]), q4⟩
  have fr : Fr 88 92 z (si z 88 5 (nI (r * 64))) := Fr.rfl'.si (by omega)
  obtain ⟨z', H', e1, e2, e3, e4, _, e6⟩ := loadNode_t (F := F) (SF := SF) hF d (si z 88 5 (nI (r * 64))) H u E (r * 64) 0 48 (fr.lay hL) hz t (hrow.of (by funext j; simp [si_1]) rfl rfl) (by simp [si_1]) hroom (by omega) (by omega) (by omega)
  refine ⟨z', H', ?_, e2, e3, e4, fr.trans e6⟩
  unfold fn_X1_load
  rw [show nI r * 64 = nI (r * 64) from pk_mul r 64]
  simp only [b_heap hL, grd_true, lt_t]
  rw [show (0 : Int32) = nI 0 from rfl, e1, cal_s]
