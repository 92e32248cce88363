/-! THE REFERENCE'S MACHINE: resources (47 .. 51) -/
section
variable {F n : Nat} {sh : Nat → Nat × Nat} {z z1 z' : St} {H : Hp} {m : Nat} {fr : Nat → Fm} {nf na : Nat} {ak : Nat → Ask} {g lim : Nat}
/-- what 47 .. 51 begin with -/
theorem RM.res0 (h : RM sh n z H m fr nf na ak g lim) {o a id ku : Nat} (ho : 47 ≤ o) (ho2 : o ≤ 51) (hu : z.2.2 337 48 = some ku) (hk : okO sh n ku 16 = true) (hid : fn_X16_identity F sh n z ku (nI a) = some (z, nI id)) (h1 : 1 ≤ (fr (nf - 1)).2.2.1.1) (h0 : ((fr (nf - 1)).2.2.1.2 ((fr (nf - 1)).2.2.1.1 - 1)).2.1 = 0) (ha : (H ((fr (nf - 1)).2.2.1.2 ((fr (nf - 1)).2.2.1.1 - 1)).1).1 = if o = 47 then 6 else 5) : ∃ z1, fn_X18_onResource F sh n z 337 (nI o) (nI a) = fn_X18_onResource_B64 F sh n 337 (nI id) (nI o) (nI ((fr (nf - 1)).2.2.1.2 ((fr (nf - 1)).2.2.1.1 - 1)).1) z1 (if o = 47 then z.2.1 337 24 else (H ((fr (nf - 1)).2.2.1.2 ((fr (nf - 1)).2.2.1.1 - 1)).1).2.2.1) ∧ RM sh n z1 H m (setF fr (nf - 1) (setH (fr (nf - 1)) ((fr (nf - 1)).2.2.1.1 - 1))) nf na ak g lim ∧ FrR z z1 := by
  have hal : (H ((fr (nf - 1)).2.2.1.2 ((fr (nf - 1)).2.2.1.1 - 1)).1).1 ≠ 0 := by rw [ha]; split <;> omega
  obtain ⟨z1, p1, p2, p3⟩ := h.takeK (F := F) h1 h0 hal
  rw [ha] at p1
  obtain ⟨b1, b2⟩ := p2.2.2.1.i1 hal
  have r3 := (p2.2.2.1.row hal).2.2.1
  refine ⟨z1, ?_, p2, p3⟩
  unfold fn_X18_onResource
  simp only [b_model h.1, grd_true, hu, lnk_s, hk, hid, cal_s]
  by_cases c : o = 47
  · subst c
    rw [if_pos rfl] at p1
    rw [if_pos (by rfl), if_pos rfl, show (6 : Int32) = nI 6 from rfl, p1, cal_s]
    unfold fn_X18_onResource_B29
    rw [p2.goes, cal_s, if_neg one0, if_pos (by rfl), (p3.2.2 24 (by simp [mfl])).2]
  · have n47 : ¬ nI o = 47 := fun q => c ((nI_ij (a := o) (b := 47) (by omega) (by omega)).mp q)
    rw [if_neg c] at p1
    rw [if_neg n47, if_neg c, show (5 : Int32) = nI 5 from rfl, p1, cal_s]
    unfold fn_X18_onResource_B29
    rw [p2.goes, cal_s, if_neg one0, if_neg n47]
    simp only [b_model p2.1, b_trees p2.1, lnk_s, grd_true, b1, b2, r3]
theorem resE {o : Nat} {id : Nat} {v : Int32} {a : Int64} (ask : fn_X18_ask F sh n z1 337 3 a (nI id) = some (z, -1)) : fn_X18_onResource_B64 F sh n 337 (nI id) (nI o) v z1 a = some (z, ()) := by
  unfold fn_X18_onResource_B64
  rw [ask, cal_s, if_neg (by decide)]
/-- 49 -/
theorem RM.r49 (h : RM sh n z H m fr nf na ak g lim) {j id : Nat} {v : Int32} {a : Int64} (hj : j < na) (ask : fn_X18_ask F sh n z1 337 3 a (nI id) = some (z, nI j)) (hm : m < 24576) (h64 : (fr (nf - 1)).2.2.1.1 < 64) : (g + 10 ≤ lim → ∃ z', fn_X18_onResource_B64 F sh n 337 (nI id) (nI 49) v z1 a = some (z', ()) ∧ RM sh n z' (upH H m (1, 0, if (ak j).2.2.2.2.1 then 1 else 0, [])) (m + 1) (setF fr (nf - 1) (pshV (fr (nf - 1)) (m, 0, 1, 0, false))) nf na ak (g + 10) lim ∧ FrR z z') ∧ (lim < g + 10 → ∃ z', fn_X18_onResource_B64 F sh n 337 (nI id) (nI 49) v z1 a = some (z', ()) ∧ RE sh n z' 2 5 lim ∧ FrR z z') := by
  have n24 := h.2.2.2.2.1.2.1
  have j0 : (0 : Int32) ≤ nI j := (nIge (x := 0) 0 rfl (by omega) (by omega)).mpr (Nat.zero_le _)
  constructor
  · intro hg
    obtain ⟨z2, s1, s2, s3⟩ := h.spend (F := F) hg
    obtain ⟨z3, m1, m2, m3⟩ := s2.make (F := F) (k := 1) (x := 0) (y := if (ak j).2.2.2.2.1 then 1 else 0) 1 (by omega) hm h64
    refine ⟨z3, ?_, m2, s3.trans m3⟩
    have r := (s2.2.2.2.2.1.2.2 j hj).2.2.2.2.1
    unfold fn_X18_onResource_B64
    rw [ask, cal_s, if_pos j0, if_pos (by rfl), show (10 : Int32) = nI 10 from rfl, s1, cal_s, if_neg one0]
    simp only [b_model s2.1, lnk_s, grd_true, okI_nI (show j < 24 by omega) (by omega), nI_clamp (n := j) (by omega), r]
    cases hc : (ak j).2.2.2.2.1 with
    | true =>
      rw [hc] at m1
      rw [if_neg (by decide), show (1 : Int32) = nI 1 from rfl, show fn_X18_make F sh n z2 337 (nI 1) 0 1 = some (z3, ()) from m1, cal_s]
    | false =>
      rw [hc] at m1
      rw [if_pos (by decide), show (1 : Int32) = nI 1 from rfl, show fn_X18_make F sh n z2 337 (nI 1) 0 0 = some (z3, ()) from m1, cal_s]
  · intro hg
    obtain ⟨z2, s1, s2, s3⟩ := h.spendE (F := F) hg (by omega)
    refine ⟨z2, ?_, s2, s3⟩
    unfold fn_X18_onResource_B64
    rw [ask, cal_s, if_pos j0, if_pos (by rfl), show (10 : Int32) = nI 10 from rfl, s1, cal_s, if_pos rfl]
/-- not there, or there already -/
theorem RM.rNo (h : RM sh n z H m fr nf na ak g lim) {j id o : Nat} {v : Int32} {a : Int64} (hj : j < na) (ho : o = 47 ∨ o = 48 ∨ o = 50 ∨ o = 51) (ask : fn_X18_ask F sh n z1 337 3 a (nI id) = some (z, nI j)) (ht : (ak j).2.2.2.2.1 = decide (o = 47)) : ∃ z', fn_X18_onResource_B64 F sh n 337 (nI id) (nI o) v z1 a = some (z', ()) ∧ RE sh n z' 2 3 g ∧ FrR z z' := by
  have n24 := h.2.2.2.2.1.2.1
  have j0 : (0 : Int32) ≤ nI j := (nIge (x := 0) 0 rfl (by omega) (by omega)).mpr (Nat.zero_le _)
  obtain ⟨z2, s1, s2, s3⟩ := h.fin (F := F) 2 3
  refine ⟨z2, ?_, s2, s3⟩
  have n49 : ¬ nI o = 49 := fun q => by have := (nI_ij (a := o) (b := 49) (by omega) (by omega)).mp q; omega
  have r := (h.2.2.2.2.1.2.2 j hj).2.2.2.2.1
  have t : ∀ p : Int32, z.1 390 j = p → fn_X18_onResource_B131 F sh n z 390 (nI j) 337 (nI o) v z p = some (z2, ()) := fun p hp => by
    unfold fn_X18_onResource_B131
    rw [nI_clamp (n := j) (by omega), if_pos hp, show (2 : Int32) = nI 2 from rfl, s1, cal_s]
  unfold fn_X18_onResource_B64
  rw [ask, cal_s, if_pos j0, if_neg n49]
  simp only [b_model h.1, lnk_s, grd_true, okI_nI (show j < 24 by omega) (by omega)]
  rw [ht] at r
  by_cases c : o = 47
  · subst c
    rw [if_pos (by rfl)]
    exact t 1 (by rw [r]; rfl)
  · have n47 : ¬ nI o = 47 := fun q => c ((nI_ij (a := o) (b := 47) (by omega) (by omega)).mp q)
    rw [if_neg n47]
    exact t 0 (by rw [r]; simp [c]; rfl)
/-- 48, 50, 51: there -/
theorem resY (h : RM sh n z H m fr nf na ak g lim) {j id o : Nat} {v : Int32} {a : Int64} (hj : j < na) (ho : o = 48 ∨ o = 50 ∨ o = 51) (ask : fn_X18_ask F sh n z1 337 3 a (nI id) = some (z, nI j)) (ht : (ak j).2.2.2.2.1 = true) : fn_X18_onResource_B64 F sh n 337 (nI id) (nI o) v z1 a = fn_X18_onResource_B165 F sh n 337 (nI o) (nI j) v z 0 := by
  have n24 := h.2.2.2.2.1.2.1
  have j0 : (0 : Int32) ≤ nI j := (nIge (x := 0) 0 rfl (by omega) (by omega)).mpr (Nat.zero_le _)
  have n49 : ¬ nI o = 49 := fun q => by have := (nI_ij (a := o) (b := 49) (by omega) (by omega)).mp q; omega
  have n47 : ¬ nI o = 47 := fun q => by have := (nI_ij (a := o) (b := 47) (by omega) (by omega)).mp q; omega
  have r := (h.2.2.2.2.1.2.2 j hj).2.2.2.2.1
  unfold fn_X18_onResource_B64
  rw [ask, cal_s, if_pos j0, if_neg n49]
  simp only [b_model h.1, lnk_s, grd_true, okI_nI (show j < 24 by omega) (by omega)]
  rw [if_neg n47]
  unfold fn_X18_onResource_B131
  rw [nI_clamp (n := j) (by omega), r, ht, if_neg (by decide), if_neg n47]
theorem RM.r165E (h : RM sh n z H m fr nf na ak g lim) {j o p : Nat} {v : Int32} (hp : p < 2 ^ 20) (hg : lim < g + (10 + p)) : ∃ z', fn_X18_onResource_B165 F sh n 337 (nI o) (nI j) v z (nI p) = some (z', ()) ∧ RE sh n z' 2 5 lim ∧ FrR z z' := by
  obtain ⟨z2, s1, s2, s3⟩ := h.spendE (F := F) hg (by omega)
  refine ⟨z2, ?_, s2, s3⟩
  unfold fn_X18_onResource_B165
  rw [show (10 : Int32) = nI 10 from rfl, nI_add, s1, cal_s, if_pos rfl]
/-- 50, 51 -/
theorem RM.r50 (h : RM sh n z H m fr nf na ak g lim) {j o : Nat} {v : Int32} (hj : j < na) (ho : o = 50 ∨ o = 51) (h3 : (ak j).1 = 3) (ht : (ak j).2.2.2.2.1 = true) (hg : g + 10 ≤ lim) (h64 : (fr (nf - 1)).2.2.1.1 < 64) (s : Sl) (hs : s.1 = (ak j).2.2.2.2.2) (hs2 : s.2.1 ≠ 0) : ∃ z', fn_X18_onResource_B165 F sh n 337 (nI o) (nI j) v z 0 = some (z', ()) ∧ RM sh n z' H m (setF fr (nf - 1) (pshV (fr (nf - 1)) s)) nf na ak (g + 10) lim ∧ FrR z z' := by
  have n24 := h.2.2.2.2.1.2.1
  obtain ⟨z2, s1, s2, s3⟩ := h.spend (F := F) hg
  obtain ⟨z3, p1, p2, p3⟩ := s2.push (F := F) s h64
  refine ⟨z3, ?_, p2, s3.trans p3⟩
  have r := (s2.2.2.2.2.1.2.2 j hj).2.2.2.2.2 h3 ht
  have n48 : ¬ nI o = 48 := fun q => by have := (nI_ij (a := o) (b := 48) (by omega) (by omega)).mp q; omega
  have n47 : ¬ nI o = 47 := fun q => by have := (nI_ij (a := o) (b := 47) (by omega) (by omega)).mp q; omega
  unfold fn_X18_onResource_B165
  rw [rB1 hs2, hs] at p1
  rw [show (10 : Int32) + 0 = nI 10 from rfl, s1, cal_s, if_neg one0, if_neg n47, if_neg n48]
  simp only [b_model s2.1, lnk_s, grd_true, okI_nI (show j < 24 by omega) (by omega), nI_clamp (n := j) (by omega), r, p1, cal_s]
/-- 48 -/
theorem RM.r48 (h : RM sh n z H m fr nf na ak g lim) {j : Nat} {v : Int32} (hj : j < na) (h3 : (ak j).1 = 3) (ht : (ak j).2.2.2.2.1 = true) (hg : g + 10 ≤ lim) (h64 : (fr (nf - 1)).2.2.1.1 < 64) (t : Nat) : ∃ z', fn_X18_onResource_B165 F sh n 337 (nI 48) (nI j) v z 0 = some (z', ()) ∧ RM sh n z' H m (setF fr (nf - 1) (pshV (fr (nf - 1)) ((ak j).2.2.2.2.2, 0, t, 0, false))) nf na (upA ak j ((ak j).1, (ak j).2.1, (ak j).2.2.1, (ak j).2.2.2.1, false, 0)) (g + 10) lim ∧ FrR z z' := by
  have n24 := h.2.2.2.2.1.2.1
  obtain ⟨z2, s1, s2, s3⟩ := h.spend (F := F) hg
  obtain ⟨z3, p1, p2, p3⟩ := s2.push (F := F) ((ak j).2.2.2.2.2, 0, t, 0, false) h64
  obtain ⟨q1, q2⟩ := p2.setA hj false (-1) 0 (fun q => by simp at q)
  refine ⟨_, ?_, q1, (s3.trans p3).trans q2⟩
  have r := (s2.2.2.2.2.1.2.2 j hj).2.2.2.2.2 h3 ht
  have L4 : Lay sh n (si z3 390 j (bI false)) := p2.1.of rfl
  unfold fn_X18_onResource_B165
  rw [rB0 rfl] at p1
  rw [show (10 : Int32) + 0 = nI 10 from rfl, s1, cal_s, if_neg one0, if_neg (by decide), if_pos (by rfl)]
  simp only [b_model s2.1, lnk_s, grd_true, okI_nI (show j < 24 by omega) (by omega), nI_clamp (n := j) (by omega), r, p1, cal_s]
  simp only [b_model p2.1, b_model L4, lnk_s, grd_true, okI_nI (show j < 24 by omega) (by omega), lt_t, show vp_nar .boolean 0 = bI false from rfl]
/-- 47 -/
theorem RM.r47 (hF : 300 ≤ F) (h : RM sh n z H m fr nf na ak g lim) {j id v d : Nat} {a : Int64} (hj : j < na) (ask : fn_X18_ask F sh n z1 337 3 a (nI id) = some (z, nI j)) (ht : (ak j).2.2.2.2.1 = false) (tr : Tr H d v) (hd : d ≤ 48) (hs : szM H d v < 2 ^ 20) : (g + (10 + szM H d v) ≤ lim → ∃ z', fn_X18_onResource_B64 F sh n 337 (nI id) (nI 47) (nI v) z1 a = some (z', ()) ∧ RM sh n z' H m fr nf na (upA ak j ((ak j).1, (ak j).2.1, (ak j).2.2.1, (ak j).2.2.2.1, true, v)) (g + (10 + szM H d v)) lim ∧ FrR z z') ∧ (lim < g + (10 + szM H d v) → ∃ z', fn_X18_onResource_B64 F sh n 337 (nI id) (nI 47) (nI v) z1 a = some (z', ()) ∧ RE sh n z' 2 5 lim ∧ FrR z z') := by
  have n24 := h.2.2.2.2.1.2.1
  have j0 : (0 : Int32) ≤ nI j := (nIge (x := 0) 0 rfl (by omega) (by omega)).mpr (Nat.zero_le _)
  have r := (h.2.2.2.2.1.2.2 j hj).2.2.2.2.1
  have start : fn_X18_onResource_B64 F sh n 337 (nI id) (nI 47) (nI v) z1 a = fn_X18_onResource_B165 F sh n 337 (nI 47) (nI j) (nI v) z (nI (szM H d v)) := by
    unfold fn_X18_onResource_B64
    rw [ask, cal_s, if_pos j0, if_neg (by decide)]
    simp only [b_model h.1, lnk_s, grd_true, okI_nI (show j < 24 by omega) (by omega)]
    rw [if_pos (by rfl)]
    unfold fn_X18_onResource_B131
    rw [nI_clamp (n := j) (by omega), r, ht, if_neg (by decide), if_pos (by rfl)]
    simp only [b_model h.1, lnk_s, grd_true, sizeM_t hF h.1 h.2.2.1 d v 48 tr hd, cal_s]
  rw [start]
  constructor
  · intro hg
    obtain ⟨z2, s1, s2, s3⟩ := h.spend (F := F) hg
    obtain ⟨q1, q2⟩ := s2.setA hj true (nI v) v (fun _ => rfl)
    refine ⟨_, ?_, q1, s3.trans q2⟩
    have L4 : Lay sh n (si z2 390 j (bI true)) := s2.1.of rfl
    unfold fn_X18_onResource_B165
    rw [show (10 : Int32) = nI 10 from rfl, nI_add, s1, cal_s, if_neg one0, if_pos (by rfl)]
    simp only [b_model s2.1, b_model L4, lnk_s, grd_true, okI_nI (show j < 24 by omega) (by omega), nI_clamp (n := j) (by omega), lt_t, show vp_nar .boolean 1 = bI true from rfl]
  · intro hg
    exact h.r165E hs hg
end
