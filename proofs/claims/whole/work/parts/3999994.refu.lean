/-! THE REFERENCE'S MACHINE: order, packing -/
section
variable {F n : Nat} {sh : Nat → Nat × Nat} {z z' : St} {H : Hp} {m : Nat} {fr : Nat → Fm} {nf na : Nat} {ak : Nat → Ask} {g lim : Nat}
def ordB (o A B : Nat) : Bool := if o = 38 then decide (A < B) else if o = 39 then decide (A ≤ B) else if o = 40 then decide (B < A) else decide (B ≤ A)
/-- 38 .. 41 -/
theorem RM.order (h : RM sh n z H m fr nf na ak g lim) (h2 : 2 ≤ (fr (nf - 1)).2.2.1.1) (h64 : (fr (nf - 1)).2.2.1.1 ≤ 64) (h0 : ((fr (nf - 1)).2.2.1.2 ((fr (nf - 1)).2.2.1.1 - 1)).2.1 = 0) (h1 : ((fr (nf - 1)).2.2.1.2 ((fr (nf - 1)).2.2.1.1 - 2)).2.1 = 0) {a b : Nat} (ea : ((fr (nf - 1)).2.2.1.2 ((fr (nf - 1)).2.2.1.1 - 2)).1 = a) (eb : ((fr (nf - 1)).2.2.1.2 ((fr (nf - 1)).2.2.1.1 - 1)).1 = b) (ha : (H a).1 ≠ 0) (hb : (H b).1 = (H a).1) {o : Nat} (ho : 38 ≤ o) (ho2 : o ≤ 41) (hm : m < 24576) : ∃ z', fn_X18_reckon F sh n z 337 (nI o) = some (z', ()) ∧ RM sh n z' (upH H m (1, 0, if ordB o (V2 (H a).2.1 (H a).2.2.1) (V2 (H b).2.1 (H b).2.2.1) then 1 else 0, [])) (m + 1) (setF fr (nf - 1) (pshV (setH (fr (nf - 1)) ((fr (nf - 1)).2.2.1.1 - 2)) (m, 0, 1, 0, false))) nf na ak g lim ∧ FrR z z' := by
  obtain ⟨z2, p1, p2, p3⟩ := h.reck0 (F := F) h2 h0 h1 ea eb ha hb (nI o)
  have hb0 : (H b).1 ≠ 0 := by rw [hb]; exact ha
  obtain ⟨b1, b2⟩ := p1.2.2.1.i1 ha
  obtain ⟨c1, c2⟩ := p1.2.2.1.i1 hb0
  obtain ⟨r1, r2, r3, _, _⟩ := p1.2.2.1.row ha
  obtain ⟨s1, s2, s3, _, _⟩ := p1.2.2.1.row hb0
  have o29 : (29 : Int32) ≤ nI o := (nIge (x := 29) 29 rfl (by omega) (by omega)).mpr (by omega)
  have o32 : (32 : Int32) ≤ nI o := (nIge (x := 32) 32 rfl (by omega) (by omega)).mpr (by omega)
  have o38 : (38 : Int32) ≤ nI o := (nIge (x := 38) 38 rfl (by omega) (by omega)).mpr (by omega)
  obtain ⟨z', w1, w2, w3⟩ := p1.make (F := F) (k := 1) (x := 0) (y := if ordB o (V2 (H a).2.1 (H a).2.2.1) (V2 (H b).2.1 (H b).2.2.1) then 1 else 0) 1 (by omega) hm (by rw [setF_s, setH_T]; omega)
  rw [setF_s, setF_2] at w2
  refine ⟨z', ?_, w2, p2.trans w3⟩
  have fin : ∀ x : Int32, (x = 0 ∧ ordB o (V2 (H a).2.1 (H a).2.2.1) (V2 (H b).2.1 (H b).2.2.1) = false) ∨ (x = 1 ∧ ordB o (V2 (H a).2.1 (H a).2.2.1) (V2 (H b).2.1 (H b).2.2.1) = true) → fn_X18_reckon_B397 F sh n 337 z2 x = some (z', ()) := by
    intro x hx
    unfold fn_X18_reckon_B397
    rcases hx with ⟨e1, e2⟩ | ⟨e1, e2⟩
    · rw [e2] at w1
      simp only [Bool.false_eq_true, if_false] at w1
      rw [if_pos e1, show (1 : Int32) = nI 1 from rfl, w1, cal_s]
    · rw [e2] at w1
      simp only [if_true] at w1
      rw [if_neg (by rw [e1]; decide), show (1 : Int32) = nI 1 from rfl, w1, cal_s]
  rw [p3]
  unfold fn_X18_reckon_B44
  simp only [b_model p1.1, b_trees p1.1, grd_true, p1.goes, cal_s, if_neg one0, lnk_s, lt_t, b1, b2, c1, c2, r1, r2, r3, s2, s3, if_pos o29, if_pos o32, if_pos o38, cmpM_t]
  generalize V2 (H a).2.1 (H a).2.2.1 = A at fin ⊢
  generalize V2 (H b).2.1 (H b).2.2.1 = B at fin ⊢
  have hc : o = 38 ∨ o = 39 ∨ o = 40 ∨ o = 41 := by omega
  by_cases cl : A < B
  · simp only [if_pos cl]
    rcases hc with e | e | e | e <;> subst e
    · rw [if_pos (by rfl), if_neg (by decide)]; exact fin 1 (.inr ⟨rfl, by simp [ordB]; omega⟩)
    · rw [if_neg (by decide), if_pos (by rfl), if_neg (by decide)]; exact fin 1 (.inr ⟨rfl, by simp [ordB]; omega⟩)
    · rw [if_neg (by decide), if_neg (by decide), if_pos (by rfl), if_pos (by decide)]; exact fin 0 (.inl ⟨rfl, by simp [ordB]; omega⟩)
    · rw [if_neg (by decide), if_neg (by decide), if_neg (by decide), if_pos (by decide)]; exact fin 0 (.inl ⟨rfl, by simp [ordB]; omega⟩)
  · simp only [if_neg cl]
    by_cases ce : A = B
    · simp only [if_pos ce]
      rcases hc with e | e | e | e <;> subst e
      · rw [if_pos (by rfl), if_pos (by decide)]; exact fin 0 (.inl ⟨rfl, by simp [ordB]; omega⟩)
      · rw [if_neg (by decide), if_pos (by rfl), if_neg (by decide)]; exact fin 1 (.inr ⟨rfl, by simp [ordB]; omega⟩)
      · rw [if_neg (by decide), if_neg (by decide), if_pos (by rfl), if_pos (by decide)]; exact fin 0 (.inl ⟨rfl, by simp [ordB]; omega⟩)
      · rw [if_neg (by decide), if_neg (by decide), if_neg (by decide), if_neg (by decide)]; exact fin 1 (.inr ⟨rfl, by simp [ordB]; omega⟩)
    · simp only [if_neg ce]
      rcases hc with e | e | e | e <;> subst e
      · rw [if_pos (by rfl), if_pos (by decide)]; exact fin 0 (.inl ⟨rfl, by simp [ordB]; omega⟩)
      · rw [if_neg (by decide), if_pos (by rfl), if_pos (by decide)]; exact fin 0 (.inl ⟨rfl, by simp [ordB]; omega⟩)
      · rw [if_neg (by decide), if_neg (by decide), if_pos (by rfl), if_neg (by decide)]; exact fin 1 (.inr ⟨rfl, by simp [ordB]; omega⟩)
      · rw [if_neg (by decide), if_neg (by decide), if_neg (by decide), if_neg (by decide)]; exact fin 1 (.inr ⟨rfl, by simp [ordB]; omega⟩)
/-- n slots go -/
theorem RM.dropn (h : RM sh n z H m fr nf na ak g lim) {c : Nat} (hc : c ≤ (fr (nf - 1)).2.2.1.1) : RM sh n (si z 337 45 (nI (bsm fr nf - c))) H m (setF fr (nf - 1) (setH (fr (nf - 1)) ((fr (nf - 1)).2.2.1.1 - c))) nf na ak g lim ∧ FrR z (si z 337 45 (nI (bsm fr nf - c))) := by
  obtain ⟨hL, hr, hM, hf, ha, h1, h2, h3, h4⟩ := h
  have key : ∀ k, k ≠ 337 → (si z 337 45 (nI (bsm fr nf - c))).1 k = z.1 k := fun k hk => by funext j; simp [si_1, hk]
  obtain ⟨t1, t2, t3⟩ := hf.top
  obtain ⟨a1, a2, a3, a4, a5, a6, a7⟩ := t1
  refine ⟨⟨hL.of rfl, by unfold Run; simp [si_1]; exact hr, hM.fr (fun k a b => key k (by omega)) (fun _ _ _ => rfl), ?_, ha.of (by simp [si_1]) (fun k a b => ⟨key k (by omega), rfl⟩), by simp [si_1]; exact h1, by simp [si_1]; exact h2, h3, h4⟩, ⟨rfl, fun k k1 _ => ⟨key k k1, rfl⟩, fun j hj => ⟨?_, rfl⟩⟩⟩
  · refine hf.set _ (by simp [si_1]) (by simp only [setH]; omega) (by simp [si_1, setH]; congr 1; omega) (fun k d c1 c2 hd => by rw [key k (by omega)]) ⟨by rw [key 391 (by omega)]; exact a2, by rw [key 392 (by omega)]; exact a3, by rw [key 393 (by omega)]; exact a4, by rw [key 394 (by omega)]; exact a5⟩ (fun j hj => by rw [key 397 (by omega), key 398 (by omega)]; exact ⟨rfl, rfl⟩) (fun j hj => by rw [key 395 (by omega), key 396 (by omega)]; exact ⟨rfl, rfl⟩) (fun k hk => ?_) (fun k q hk => ?_)
    · simp only [setH] at hk ⊢
      rw [key 397 (by omega), key 398 (by omega)]
      exact a6 k (by omega)
    · rw [key 395 (by omega), key 396 (by omega)]
      exact a7 k q hk
  · have : j ≠ 45 := fun e => hj (by rw [e]; simp [mfl])
    simp [si_1, this]
/-- what the slots that become parts are -/
def Prt (H : Hp) (m : Nat) (cs : List Nat) : Prop := cs.Nodup ∧ PU H ∧ (∀ i c, c ∈ kds H i → (H c).1 ≠ 0) ∧ (∀ i, m ≤ i → H i = (0, 0, 0, [])) ∧ ∀ c, c ∈ cs → (H c).1 ≠ 0 ∧ c < m ∧ Rt H c
theorem Prt.pu {cs : List Nat} (p : Prt H m cs) {k : Nat} {lo : Int64} {j : Nat} : PU (upH H m (k, 0, lo, cs.take j)) ∧ ∀ (hj : j < cs.length), Rt (upH H m (k, 0, lo, cs.take j)) cs[j] := by
  obtain ⟨nd, pu, cl, dd, hc⟩ := p
  have em : kds (upH H m (k, 0, lo, cs.take j)) m = cs.take j := by unfold kds; rw [upH_s]
  have eo : ∀ v, v ≠ m → kds (upH H m (k, 0, lo, cs.take j)) v = kds H v := fun v q => by unfold kds; rw [upH_n q]
  refine ⟨fun v w c hv hw => ?_, fun hj v hv => ?_⟩
  · by_cases cv : v = m
    · by_cases cw : w = m
      · rw [cv, cw]
      · rw [cv, em] at hv; rw [eo w cw] at hw
        exact absurd hw ((hc c (List.mem_of_mem_take hv)).2.2 w)
    · by_cases cw : w = m
      · rw [cw, em] at hw; rw [eo v cv] at hv
        exact absurd hv ((hc c (List.mem_of_mem_take hw)).2.2 v)
      · rw [eo v cv] at hv; rw [eo w cw] at hw
        exact pu v w c hv hw
  · by_cases cv : v = m
    · rw [cv, em] at hv
      have e := List.take_append_drop j cs
      rw [← e] at nd
      have := (List.nodup_append.mp nd).2.2 cs[j] hv cs[j] (by rw [drop_c hj]; exact List.mem_cons_self)
      exact this rfl
    · rw [eo v cv] at hv
      exact (hc _ (List.getElem_mem hj)).2.2 v hv
theorem pack_L69_t (hF : 300 ≤ F) {k : Nat} {lo : Int64} {c : Nat} {cs : List Nat} (p : Prt H m cs) (hk : k = 6 ∨ k = 7) (hcs : cs.length = c) (hc64 : c ≤ 64) (hc : c ≤ (fr (nf - 1)).2.2.1.1) (hn : ∀ i (hi : i < cs.length), ((fr (nf - 1)).2.2.1.2 ((fr (nf - 1)).2.2.1.1 - c + i)).1 = cs[i]) (h64 : (fr (nf - 1)).2.2.1.1 ≤ 64) (hpos : 0 < c ∨ (fr (nf - 1)).2.2.1.1 < 64) (t : Nat) : ∀ r j f z0, j + r = c → r < f → RM sh n z0 (upH H m (k, 0, lo, cs.take j)) (m + 1) fr nf na ak g lim → ∃ z', fn_X18_pack_L69 F sh n 337 (nI c) (nI m) f z0 (nI (bsm fr nf - c + j)) = some (z', ()) ∧ RM sh n z' (upH H m (k, 0, lo, cs)) (m + 1) (setF fr (nf - 1) (pshV (setH (fr (nf - 1)) ((fr (nf - 1)).2.2.1.1 - c)) (m, 0, t, 0, false))) nf na ak g lim ∧ FrR z0 z' := by
  intro r
  induction r with
  | zero =>
    intro j f z0 e hf h
    obtain ⟨f', rfl⟩ : ∃ q, f = q + 1 := ⟨f - 1, by omega⟩
    have ej : j = c := by omega
    rw [ej, ← hcs, List.take_length] at h
    obtain ⟨t1, t2, t3⟩ := h.2.2.2.1.top
    obtain ⟨d1, d2⟩ := h.dropn hc
    obtain ⟨z', q1, q2, q3⟩ := d1.push (F := F) (m, 0, t, 0, false) (by rw [setF_s, setH_T]; omega)
    rw [rB0 rfl] at q1
    rw [setF_s, setF_2] at q2
    refine ⟨z', ?_, q2, d2.trans q3⟩
    unfold fn_X18_pack_L69
    rw [h.2.2.2.1.2.2.2.1, if_pos ((nI_leI (by omega) (by omega)).mpr (by omega)), show nI (bsm fr nf) - nI c = nI (bsm fr nf - c) from pk_sub (by omega), lt_t, show fn_X18_push F sh n (si z0 337 45 (nI (bsm fr nf - c))) 337 (nI m) 0 = some (z', ()) from q1, cal_s]
  | succ r ih =>
    intro j f z0 e hf h
    obtain ⟨f', rfl⟩ : ∃ q, f = q + 1 := ⟨f - 1, by omega⟩
    obtain ⟨t1, t2, t3⟩ := h.2.2.2.1.top
    have hj : j < cs.length := by omega
    obtain ⟨pu, rt⟩ := p.pu (k := k) (lo := lo) (j := j)
    obtain ⟨nd, _, _, _, hcc⟩ := p
    have cj := hcc _ (List.getElem_mem hj)
    have mal : ((upH H m (k, 0, lo, cs.take j)) m).1 ≠ 0 := by rw [upH_s]; simp; omega
    have cal : ((upH H m (k, 0, lo, cs.take j)) cs[j]).1 ≠ 0 := by rw [upH_n (by omega)]; exact cj.1
    have km : kds (upH H m (k, 0, lo, cs.take j)) m = cs.take j := by unfold kds; rw [upH_s]
    have hni : cs[j] ∉ kds (upH H m (k, 0, lo, cs.take j)) m := rt hj m
    have ad := tadd_t (F := F) hF h.1 h.2.2.1 mal cal hni
    have hH := ad_H h.2.2.1 mal cal (rt hj) (by rw [km, List.length_take]; omega) (by rw [km]; exact (List.take_sublist j cs).nodup nd) pu
    obtain ⟨m1, m2⟩ := h.tree ad_fr hH
    have eH : upH (upH H m (k, 0, lo, cs.take j)) m (setC ((upH H m (k, 0, lo, cs.take j)) m) (kds (upH H m (k, 0, lo, cs.take j)) m ++ [cs[j]])) = upH H m (k, 0, lo, cs.take (j + 1)) := by
      funext i
      by_cases q : i = m
      · subst q
        rw [upH_s, upH_s, upH_s, km, List.take_succ_eq_append_getElem hj]; rfl
      · rw [upH_n q, upH_n q, upH_n q]
    rw [eH] at m1
    obtain ⟨z', q1, q2, q3⟩ := ih (j + 1) f' _ (by omega) (by omega) m1
    refine ⟨z', ?_, q2, m2.trans q3⟩
    have s1 := (t1.2.2.2.2.2.1 ((fr (nf - 1)).2.2.1.1 - c + j) (by omega)).1
    rw [hn j hj, show bsm fr (nf - 1) + ((fr (nf - 1)).2.2.1.1 - c + j) = bsm fr nf - c + j by omega] at s1
    unfold fn_X18_pack_L69
    rw [h.2.2.2.1.2.2.2.1, if_neg (fun q => by have := (nI_leI (by omega) (by omega)).mp q; omega)]
    simp only [b_model h.1, grd_true, lnk_s, okI_nI (show bsm fr nf - c + j < 2200 by omega) (by omega), nI_clamp (n := bsm fr nf - c + j) (by omega), s1, ad, cal_s, nI_1]
    rw [show bsm fr nf - c + j + 1 = bsm fr nf - c + (j + 1) by omega]
    exact q1
theorem onVector_L59_t (hF : 300 ≤ F) {k : Nat} {lo : Int64} {c : Nat} {cs : List Nat} (p : Prt H m cs) (hk : k = 6 ∨ k = 7) (hcs : cs.length = c) (hc64 : c ≤ 64) (hc : c ≤ (fr (nf - 1)).2.2.1.1) (hn : ∀ i (hi : i < cs.length), ((fr (nf - 1)).2.2.1.2 ((fr (nf - 1)).2.2.1.1 - c + i)).1 = cs[i]) (h64 : (fr (nf - 1)).2.2.1.1 ≤ 64) (hpos : 0 < c ∨ (fr (nf - 1)).2.2.1.1 < 64) (t : Nat) : ∀ r j f z0, j + r = c → r < f → RM sh n z0 (upH H m (k, 0, lo, cs.take j)) (m + 1) fr nf na ak g lim → ∃ z', fn_X18_onVector_L59 F sh n 337 (nI c) (nI m) f z0 (nI (bsm fr nf - c + j)) = some (z', ()) ∧ RM sh n z' (upH H m (k, 0, lo, cs)) (m + 1) (setF fr (nf - 1) (pshV (setH (fr (nf - 1)) ((fr (nf - 1)).2.2.1.1 - c)) (m, 0, t, 0, false))) nf na ak g lim ∧ FrR z0 z' := by
  intro r
  induction r with
  | zero =>
    intro j f z0 e hf h
    obtain ⟨f', rfl⟩ : ∃ q, f = q + 1 := ⟨f - 1, by omega⟩
    have ej : j = c := by omega
    rw [ej, ← hcs, List.take_length] at h
    obtain ⟨t1, t2, t3⟩ := h.2.2.2.1.top
    obtain ⟨d1, d2⟩ := h.dropn hc
    obtain ⟨z', q1, q2, q3⟩ := d1.push (F := F) (m, 0, t, 0, false) (by rw [setF_s, setH_T]; omega)
    rw [rB0 rfl] at q1
    rw [setF_s, setF_2] at q2
    refine ⟨z', ?_, q2, d2.trans q3⟩
    unfold fn_X18_onVector_L59
    rw [h.2.2.2.1.2.2.2.1, if_pos ((nI_leI (by omega) (by omega)).mpr (by omega)), show nI (bsm fr nf) - nI c = nI (bsm fr nf - c) from pk_sub (by omega), lt_t, show fn_X18_push F sh n (si z0 337 45 (nI (bsm fr nf - c))) 337 (nI m) 0 = some (z', ()) from q1, cal_s]
  | succ r ih =>
    intro j f z0 e hf h
    obtain ⟨f', rfl⟩ : ∃ q, f = q + 1 := ⟨f - 1, by omega⟩
    obtain ⟨t1, t2, t3⟩ := h.2.2.2.1.top
    have hj : j < cs.length := by omega
    obtain ⟨pu, rt⟩ := p.pu (k := k) (lo := lo) (j := j)
    obtain ⟨nd, _, _, _, hcc⟩ := p
    have cj := hcc _ (List.getElem_mem hj)
    have mal : ((upH H m (k, 0, lo, cs.take j)) m).1 ≠ 0 := by rw [upH_s]; simp; omega
    have cal : ((upH H m (k, 0, lo, cs.take j)) cs[j]).1 ≠ 0 := by rw [upH_n (by omega)]; exact cj.1
    have km : kds (upH H m (k, 0, lo, cs.take j)) m = cs.take j := by unfold kds; rw [upH_s]
    have hni : cs[j] ∉ kds (upH H m (k, 0, lo, cs.take j)) m := rt hj m
    have ad := tadd_t (F := F) hF h.1 h.2.2.1 mal cal hni
    have hH := ad_H h.2.2.1 mal cal (rt hj) (by rw [km, List.length_take]; omega) (by rw [km]; exact (List.take_sublist j cs).nodup nd) pu
    obtain ⟨m1, m2⟩ := h.tree ad_fr hH
    have eH : upH (upH H m (k, 0, lo, cs.take j)) m (setC ((upH H m (k, 0, lo, cs.take j)) m) (kds (upH H m (k, 0, lo, cs.take j)) m ++ [cs[j]])) = upH H m (k, 0, lo, cs.take (j + 1)) := by
      funext i
      by_cases q : i = m
      · subst q
        rw [upH_s, upH_s, upH_s, km, List.take_succ_eq_append_getElem hj]; rfl
      · rw [upH_n q, upH_n q, upH_n q]
    rw [eH] at m1
    obtain ⟨z', q1, q2, q3⟩ := ih (j + 1) f' _ (by omega) (by omega) m1
    refine ⟨z', ?_, q2, m2.trans q3⟩
    have s1 := (t1.2.2.2.2.2.1 ((fr (nf - 1)).2.2.1.1 - c + j) (by omega)).1
    rw [hn j hj, show bsm fr (nf - 1) + ((fr (nf - 1)).2.2.1.1 - c + j) = bsm fr nf - c + j by omega] at s1
    unfold fn_X18_onVector_L59
    rw [h.2.2.2.1.2.2.2.1, if_neg (fun q => by have := (nI_leI (by omega) (by omega)).mp q; omega)]
    simp only [b_model h.1, grd_true, lnk_s, okI_nI (show bsm fr nf - c + j < 2200 by omega) (by omega), nI_clamp (n := bsm fr nf - c + j) (by omega), s1, ad, cal_s, nI_1]
    rw [show bsm fr nf - c + j + 1 = bsm fr nf - c + (j + 1) by omega]
    exact q1
/-- 21 -/
theorem RM.pack (hF : 300 ≤ F) (h : RM sh n z H m fr nf na ak g lim) {ku a c id : Nat} (hu : z.2.2 337 48 = some ku) (ho : okO sh n ku 16 = true) (hfd : fn_X16_fieldsOf F sh n z ku (nI a) = some (z, nI c)) (hid : fn_X16_identity F sh n z ku (nI a) = some (z, nI id)) (hid2 : id < 2 ^ 31) {cs : List Nat} (p : Prt H m cs) (hcs : cs.length = c) (hc1 : 1 ≤ c) (hc64 : c ≤ 64) (hc : c ≤ (fr (nf - 1)).2.2.1.1) (hn : ∀ i (hi : i < cs.length), ((fr (nf - 1)).2.2.1.2 ((fr (nf - 1)).2.2.1.1 - c + i)).1 = cs[i]) (h64 : (fr (nf - 1)).2.2.1.1 ≤ 64) (hm : m < 24576) (t : Nat) : ∃ z', fn_X18_pack F sh n z 337 (nI a) = some (z', ()) ∧ RM sh n z' (upH H m (6, 0, lN id, cs)) (m + 1) (setF fr (nf - 1) (pshV (setH (fr (nf - 1)) ((fr (nf - 1)).2.2.1.1 - c)) (m, 0, t, 0, false))) nf na ak g lim ∧ FrR z z' := by
  have hf := h.2.2.2.1
  obtain ⟨t1, t2, t3⟩ := hf.top
  have mk := makeM_t (F := F) (k := 6) (x := 0) (y := lN id) h.1 h.2.2.1.1 hm (by omega)
  obtain ⟨m1, m2⟩ := h.tree (mm_fr (m := m) (k := nI 6) (x := 0) (y := lN id)) (mm_H h.2.2.1 hm (by omega))
  obtain ⟨z', q1, q2, q3⟩ := pack_L69_t (F := F) hF p (.inl rfl) hcs hc64 hc hn h64 (.inl hc1) t c 0 F _ (by omega) (by omega) (by rw [List.take_zero]; exact m1)
  refine ⟨z', ?_, q2, m2.trans q3⟩
  have e1 : nI nf - 1 = nI (nf - 1) := pk_sub (a := nf) (b := 1) (by have := hf.2.1; omega)
  have b3 : okI (nI (nf - 1)) 32 = true := okI_nI (by have := hf.2.1; have := hf.2.2.1; omega) (by omega)
  have b4 : (nI (nf - 1)).toNatClampNeg = nf - 1 := nI_clamp (by have := hf.2.2.1; omega)
  have e2 : nI (bsm fr nf) - nI (bsm fr (nf - 1)) = nI ((fr (nf - 1)).2.2.1.1) := by rw [pk_sub (by omega)]; congr 1; omega
  have le : nI c ≤ nI (fr (nf - 1)).2.2.1.1 := (nI_leI (by omega) (by omega)).mpr hc
  unfold fn_X18_pack
  simp only [b_model h.1, grd_true, hu, lnk_s, ho, hfd, cal_s, hf.1, e1, b3, b4, hf.2.2.2.1, t1.2.2.2.2.1, e2, if_pos le]
  unfold fn_X18_pack_B33
  have e3 : (mmS z m (nI 6) 0 (lN id)).1 337 45 = nI (bsm fr nf) := by simp [mmS, si_1, sl_1]; exact hf.2.2.2.1
  rw [show (6 : Int32) = nI 6 from rfl]
  simp only [b_model h.1, grd_true, h.goes, cal_s, if_neg one0, lnk_s, hu, ho, hid, nI_l hid2, mk, lt_t, e3, show nI (bsm fr nf) - nI c = nI (bsm fr nf - c) from pk_sub (by omega)]
  exact q1
/-- 52 -/
theorem RM.v52 (hF : 300 ≤ F) (h : RM sh n z H m fr nf na ak g lim) {c : Nat} {cs : List Nat} (p : Prt H m cs) (hcs : cs.length = c) (hc64 : c ≤ 64) (hc : c ≤ (fr (nf - 1)).2.2.1.1) (hn : ∀ i (hi : i < cs.length), ((fr (nf - 1)).2.2.1.2 ((fr (nf - 1)).2.2.1.1 - c + i)).1 = cs[i]) (h64 : (fr (nf - 1)).2.2.1.1 ≤ 64) (hpos : 0 < c ∨ (fr (nf - 1)).2.2.1.1 < 64) (hm : m < 24576) (t : Nat) : (g + c ≤ lim → ∃ z', fn_X18_onVector F sh n z 337 52 (nI c) = some (z', ()) ∧ RM sh n z' (upH H m (7, 0, 0, cs)) (m + 1) (setF fr (nf - 1) (pshV (setH (fr (nf - 1)) ((fr (nf - 1)).2.2.1.1 - c)) (m, 0, t, 0, false))) nf na ak (g + c) lim ∧ FrR z z') ∧ (lim < g + c → ∃ z', fn_X18_onVector F sh n z 337 52 (nI c) = some (z', ()) ∧ RE sh n z' 2 5 lim ∧ FrR z z') := by
  have hf := h.2.2.2.1
  obtain ⟨t1, t2, t3⟩ := hf.top
  have e1 : nI nf - 1 = nI (nf - 1) := pk_sub (a := nf) (b := 1) (by have := hf.2.1; omega)
  have b3 : okI (nI (nf - 1)) 32 = true := okI_nI (by have := hf.2.1; have := hf.2.2.1; omega) (by omega)
  have b4 : (nI (nf - 1)).toNatClampNeg = nf - 1 := nI_clamp (by have := hf.2.2.1; omega)
  have e2 : nI (bsm fr nf) - nI (bsm fr (nf - 1)) = nI ((fr (nf - 1)).2.2.1.1) := by rw [pk_sub (by omega)]; congr 1; omega
  have le : nI c ≤ nI (fr (nf - 1)).2.2.1.1 := (nI_leI (by omega) (by omega)).mpr hc
  have start : fn_X18_onVector F sh n z 337 52 (nI c) = fn_X18_onVector_B30 F sh n 337 (nI c) z := by
    unfold fn_X18_onVector
    rw [if_pos rfl]
    simp only [b_model h.1, grd_true, lnk_s, hf.1, e1, b3, b4, hf.2.2.2.1, t1.2.2.2.2.1, e2, if_pos le]
  rw [start]
  constructor
  · intro hg
    obtain ⟨z1, s1, s2, s3⟩ := h.spend (F := F) hg
    have mk := makeM_t (F := F) (k := 7) (x := 0) (y := 0) s2.1 s2.2.2.1.1 hm (by omega)
    obtain ⟨m1, m2⟩ := s2.tree (mm_fr (m := m) (k := nI 7) (x := 0) (y := 0)) (mm_H s2.2.2.1 hm (by omega))
    obtain ⟨z', q1, q2, q3⟩ := onVector_L59_t (F := F) hF p (.inr rfl) hcs hc64 hc hn h64 hpos t c 0 F _ (by omega) (by omega) (by rw [List.take_zero]; exact m1)
    refine ⟨z', ?_, q2, s3.trans (m2.trans q3)⟩
    have e3 : (mmS z1 m (nI 7) 0 0).1 337 45 = nI (bsm fr nf) := by simp [mmS, si_1, sl_1]; exact s2.2.2.2.1.2.2.2.1
    unfold fn_X18_onVector_B30
    rw [show (7 : Int32) = nI 7 from rfl]
    simp only [s1, cal_s, if_neg one0, b_model s2.1, grd_true, lnk_s, mk, lt_t, e3, show nI (bsm fr nf) - nI c = nI (bsm fr nf - c) from pk_sub (by omega)]
    exact q1
  · intro hg
    obtain ⟨z1, s1, s2, s3⟩ := h.spendE (F := F) hg (by omega)
    refine ⟨z1, ?_, s2, s3⟩
    unfold fn_X18_onVector_B30
    simp only [s1, cal_s, ↓reduceIte]
end
