/-! THE REFERENCE'S MACHINE: primitives -/
def RAs (z : St) (na : Nat) (ak : Nat → Ask) : Prop := z.1 337 29 = nI na ∧ na ≤ 24 ∧ ∀ j, j < na → z.1 385 j = nI (ak j).1 ∧ z.2.1 386 j = (ak j).2.1 ∧ z.1 387 j = nI (ak j).2.2.1 ∧ z.2.1 388 j = (ak j).2.2.2.1 ∧ z.1 390 j = bI (ak j).2.2.2.2.1 ∧ ((ak j).1 = 3 → (ak j).2.2.2.2.1 = true → z.1 389 j = nI (ak j).2.2.2.2.2)
/-- fields of the reference that a call changes -/
def mfl (j : Nat) : Prop := j = 14 ∨ j = 26 ∨ j = 27 ∨ j = 28 ∨ j = 29 ∨ j = 36 ∨ j = 45 ∨ j = 46 ∨ j = 47 ∨ j = 48
def mcl (k : Nat) : Prop := (349 ≤ k ∧ k ≤ 354) ∨ (368 ≤ k ∧ k ≤ 375) ∨ (385 ≤ k ∧ k ≤ 398)
/-- what a call leaves alone -/
def FrR (z z' : St) : Prop := z'.2.2 = z.2.2 ∧ (∀ k, k ≠ 337 → ¬ mcl k → z'.1 k = z.1 k ∧ z'.2.1 k = z.2.1 k) ∧ ∀ j, ¬ mfl j → z'.1 337 j = z.1 337 j ∧ z'.2.1 337 j = z.2.1 337 j
theorem FrR.rfl' {z : St} : FrR z z := ⟨rfl, fun _ _ _ => ⟨rfl, rfl⟩, fun _ _ => ⟨rfl, rfl⟩⟩
theorem FrR.trans {z z' z'' : St} (h : FrR z z') (g : FrR z' z'') : FrR z z'' := ⟨g.1.trans h.1, fun k a b => ⟨(g.2.1 k a b).1.trans (h.2.1 k a b).1, (g.2.1 k a b).2.trans (h.2.1 k a b).2⟩, fun j a => ⟨(g.2.2 j a).1.trans (h.2.2 j a).1, (g.2.2 j a).2.trans (h.2.2 j a).2⟩⟩
theorem FrR.lay {sh : Nat → Nat × Nat} {n : Nat} {z z' : St} (h : FrR z z') (hL : Lay sh n z) : Lay sh n z' := hL.of h.1
theorem Fr.frR {lo hi : Nat} {z z' : St} (h : Fr lo hi z z') (hm : ∀ k, lo ≤ k → k ≤ hi → mcl k ∧ k ≠ 337) : FrR z z' := by
  refine ⟨h.1, fun k k1 k2 => h.2 k (fun q => k2 (hm k q.1 q.2).1), fun j _ => ?_⟩
  have := h.2 337 (fun q => (hm 337 q.1 q.2).2 rfl)
  rw [this.1, this.2]; exact ⟨rfl, rfl⟩
theorem tr_frR {z z' : St} (h : Fr 349 354 z z') : FrR z z' := h.frR (fun k a b => ⟨.inl ⟨a, b⟩, by omega⟩)
/-- the reference's machine, going on -/
def RM (sh : Nat → Nat × Nat) (n : Nat) (z : St) (H : Hp) (m : Nat) (fr : Nat → Fm) (nf na : Nat) (ak : Nat → Ask) (g lim : Nat) : Prop := Lay sh n z ∧ Run z ∧ HM z H m ∧ RFs z fr nf ∧ RAs z na ak ∧ z.1 337 26 = nI g ∧ z.1 337 25 = nI lim ∧ g ≤ lim ∧ lim ≤ 20000
/-- it has ended: outcome, code, gas -/
def RE (sh : Nat → Nat × Nat) (n : Nat) (z : St) (o : Nat) (c : Int64) (g : Nat) : Prop := Lay sh n z ∧ z.1 337 27 = nI o ∧ z.2.1 337 28 = c ∧ z.1 337 26 = nI g
section
variable {F n : Nat} {sh : Nat → Nat × Nat} {z z' : St} {H : Hp} {m : Nat} {fr : Nat → Fm} {nf na : Nat} {ak : Nat → Ask} {g lim : Nat}
theorem RAs.of (h : RAs z na ak) (e1 : z'.1 337 29 = z.1 337 29) (e2 : ∀ c, 385 ≤ c → c ≤ 390 → z'.1 c = z.1 c ∧ z'.2.1 c = z.2.1 c) : RAs z' na ak := by
  refine ⟨by rw [e1]; exact h.1, h.2.1, fun j hj => ?_⟩
  rw [(e2 385 (by omega) (by omega)).1, (e2 386 (by omega) (by omega)).2, (e2 387 (by omega) (by omega)).1, (e2 388 (by omega) (by omega)).2, (e2 389 (by omega) (by omega)).1, (e2 390 (by omega) (by omega)).1]
  exact h.2.2 j hj
theorem fr_pu {hh : Nat} {v : Int32} {r : Bool} : FrR z (puS z hh v r) := by
  refine ⟨rfl, fun k k1 k2 => ⟨?_, rfl⟩, fun j hj => ⟨?_, rfl⟩⟩
  · have a : k ≠ 397 := fun e => k2 (by rw [e]; right; right; omega)
    have b : k ≠ 398 := fun e => k2 (by rw [e]; right; right; omega)
    funext x; simp [puS, si_1, k1, a, b]
  · have : j ≠ 45 := fun e => hj (by rw [e]; simp [mfl])
    simp [puS, si_1, this]
theorem fr_tk {hh : Nat} : FrR z (tkS z hh) := by
  refine ⟨rfl, fun k k1 k2 => ⟨?_, rfl⟩, fun j hj => ⟨?_, rfl⟩⟩
  · funext x; simp [tkS, si_1, k1]
  · have a : j ≠ 45 := fun e => hj (by rw [e]; simp [mfl])
    have b : j ≠ 46 := fun e => hj (by rw [e]; simp [mfl])
    simp [tkS, si_1, a, b]
theorem RM.push (h : RM sh n z H m fr nf na ak g lim) (s : Sl) (h64 : (fr (nf - 1)).2.2.1.1 < 64) : ∃ z', fn_X18_push F sh n z 337 (nI s.1) (bI (rB s)) = some (z', ()) ∧ RM sh n z' H m (setF fr (nf - 1) (pshV (fr (nf - 1)) s)) nf na ak g lim ∧ FrR z z' := by
  obtain ⟨hL, hr, hm, hf, ha, h1, h2, h3, h4⟩ := h
  refine ⟨_, rpush_t hL hr hf.2.2.2.1 (by have := hf.top.2.2; omega), ⟨hL.of rfl, hr.pu, hm.fr (fun k a b => ?_) (fun k a b => rfl), hf.push h64, ha.of (by simp [puS, si_1]) (fun c a b => ⟨?_, rfl⟩), by simp [puS, si_1]; exact h1, by simp [puS, si_1]; exact h2, h3, h4⟩, fr_pu⟩
  · have : k ≠ 397 ∧ k ≠ 398 ∧ k ≠ 337 := by omega
    funext x; simp [puS, si_1, this]
  · have : c ≠ 397 ∧ c ≠ 398 ∧ c ≠ 337 := by omega
    funext x; simp [puS, si_1, this]
theorem RM.take (h : RM sh n z H m fr nf na ak g lim) (h1 : 1 ≤ (fr (nf - 1)).2.2.1.1) : ∃ z', fn_X18_takeAny F sh n z 337 (bI (rB ((fr (nf - 1)).2.2.1.2 ((fr (nf - 1)).2.2.1.1 - 1)))) = some (z', nI ((fr (nf - 1)).2.2.1.2 ((fr (nf - 1)).2.2.1.1 - 1)).1) ∧ RM sh n z' H m (setF fr (nf - 1) (setH (fr (nf - 1)) ((fr (nf - 1)).2.2.1.1 - 1))) nf na ak g lim ∧ FrR z z' ∧ z'.1 337 46 = nI ((fr (nf - 1)).2.2.1.2 ((fr (nf - 1)).2.2.1.1 - 1)).1 := by
  obtain ⟨hL, hr, hm, hf, ha, g1, g2, g3, g4⟩ := h
  refine ⟨_, hf.take_t hL hr h1, ⟨hL.of rfl, hr.tk, hm.fr (fun k a b => ?_) (fun k a b => rfl), hf.take h1, ha.of (by simp [tkS, si_1]) (fun c a b => ⟨?_, rfl⟩), by simp [tkS, si_1]; exact g1, by simp [tkS, si_1]; exact g2, g3, g4⟩, fr_tk, ?_⟩
  · have : k ≠ 337 := by omega
    funext x; simp [tkS, si_1, this]
  · have : c ≠ 337 := by omega
    funext x; simp [tkS, si_1, this]
  · obtain ⟨t1, t2, t3⟩ := hf.top
    have b1 := (t1.2.2.2.2.2.1 ((fr (nf - 1)).2.2.1.1 - 1) (by omega)).1
    rw [show bsm fr (nf - 1) + ((fr (nf - 1)).2.2.1.1 - 1) = bsm fr nf - 1 by omega] at b1
    simp [tkS, si_1]; exact b1
theorem rB0 {s : Sl} (h : s.2.1 = 0) : bI (rB s) = 0 := by simp [rB, h, bI]
theorem rB1 {s : Sl} (h : s.2.1 ≠ 0) : bI (rB s) = 1 := by simp [rB, h, bI]
/-- a value is taken -/
theorem RM.takeV (h : RM sh n z H m fr nf na ak g lim) (h1 : 1 ≤ (fr (nf - 1)).2.2.1.1) (h0 : ((fr (nf - 1)).2.2.1.2 ((fr (nf - 1)).2.2.1.1 - 1)).2.1 = 0) : ∃ z', fn_X18_takeAny F sh n z 337 0 = some (z', nI ((fr (nf - 1)).2.2.1.2 ((fr (nf - 1)).2.2.1.1 - 1)).1) ∧ RM sh n z' H m (setF fr (nf - 1) (setH (fr (nf - 1)) ((fr (nf - 1)).2.2.1.1 - 1))) nf na ak g lim ∧ FrR z z' := by
  obtain ⟨z', a, b, c, _⟩ := h.take (F := F) h1
  rw [rB0 h0] at a
  exact ⟨z', a, b, c⟩
theorem RM.takeR (h : RM sh n z H m fr nf na ak g lim) (h1 : 1 ≤ (fr (nf - 1)).2.2.1.1) (h0 : ((fr (nf - 1)).2.2.1.2 ((fr (nf - 1)).2.2.1.1 - 1)).2.1 ≠ 0) : ∃ z', fn_X18_takeAny F sh n z 337 1 = some (z', nI ((fr (nf - 1)).2.2.1.2 ((fr (nf - 1)).2.2.1.1 - 1)).1) ∧ RM sh n z' H m (setF fr (nf - 1) (setH (fr (nf - 1)) ((fr (nf - 1)).2.2.1.1 - 1))) nf na ak g lim ∧ FrR z z' := by
  obtain ⟨z', a, b, c, _⟩ := h.take (F := F) h1
  rw [rB1 h0] at a
  exact ⟨z', a, b, c⟩
theorem RM.goes (h : RM sh n z H m fr nf na ak g lim) : fn_X18_goesOn F sh n z 337 = some (z, 1) := goes_t h.1 h.2.1
/-- a value of a kind is taken -/
theorem RM.takeK (h : RM sh n z H m fr nf na ak g lim) (h1 : 1 ≤ (fr (nf - 1)).2.2.1.1) (h0 : ((fr (nf - 1)).2.2.1.2 ((fr (nf - 1)).2.2.1.1 - 1)).2.1 = 0) (ha : (H ((fr (nf - 1)).2.2.1.2 ((fr (nf - 1)).2.2.1.1 - 1)).1).1 ≠ 0) : ∃ z', fn_X18_take F sh n z 337 (nI (H ((fr (nf - 1)).2.2.1.2 ((fr (nf - 1)).2.2.1.1 - 1)).1).1) = some (z', nI ((fr (nf - 1)).2.2.1.2 ((fr (nf - 1)).2.2.1.1 - 1)).1) ∧ RM sh n z' H m (setF fr (nf - 1) (setH (fr (nf - 1)) ((fr (nf - 1)).2.2.1.1 - 1))) nf na ak g lim ∧ FrR z z' := by
  obtain ⟨z', a, b, c⟩ := h.takeV (F := F) h1 h0
  refine ⟨z', ?_, b, c⟩
  obtain ⟨b1, b2⟩ := b.2.2.1.i1 ha
  unfold fn_X18_take
  simp only [b_model h.1, grd_true, a, cal_s, b.goes, if_neg one0]
  simp only [b_model b.1, b_trees b.1, grd_true, lnk_s, b1, b2, (b.2.2.1.row ha).1, ↓reduceIte]
theorem RM.takeL (h : RM sh n z H m fr nf na ak g lim) (h1 : 1 ≤ (fr (nf - 1)).2.2.1.1) (h0 : ((fr (nf - 1)).2.2.1.2 ((fr (nf - 1)).2.2.1.1 - 1)).2.1 = 0) (ha : (H ((fr (nf - 1)).2.2.1.2 ((fr (nf - 1)).2.2.1.1 - 1)).1).1 = 3) : ∃ z', fn_X18_takeLong F sh n z 337 = some (z', (H ((fr (nf - 1)).2.2.1.2 ((fr (nf - 1)).2.2.1.1 - 1)).1).2.2.1) ∧ RM sh n z' H m (setF fr (nf - 1) (setH (fr (nf - 1)) ((fr (nf - 1)).2.2.1.1 - 1))) nf na ak g lim ∧ FrR z z' := by
  have hal : (H ((fr (nf - 1)).2.2.1.2 ((fr (nf - 1)).2.2.1.1 - 1)).1).1 ≠ 0 := by omega
  obtain ⟨z', a, b, c⟩ := h.takeK (F := F) h1 h0 hal
  refine ⟨z', ?_, b, c⟩
  rw [ha] at a
  obtain ⟨b1, b2⟩ := b.2.2.1.i1 hal
  unfold fn_X18_takeLong
  rw [show (3 : Int32) = nI 3 from rfl]
  simp only [b_model h.1, grd_true, a, cal_s]
  simp only [b_model b.1, b_trees b.1, grd_true, lnk_s, b1, b2, (b.2.2.1.row hal).2.2.1]
/-- a number is made -/
theorem RM.make (h : RM sh n z H m fr nf na ak g lim) {k : Nat} {x y : Int64} (t : Nat) (hk : k < 8) (hm : m < 24576) (h64 : (fr (nf - 1)).2.2.1.1 < 64) : ∃ z', fn_X18_make F sh n z 337 (nI k) x y = some (z', ()) ∧ RM sh n z' (upH H m (k, x, y, [])) (m + 1) (setF fr (nf - 1) (pshV (fr (nf - 1)) (m, 0, t, 0, false))) nf na ak g lim ∧ FrR z z' := by
  obtain ⟨hL, hr, hM, hf, ha, h1, h2, h3, h4⟩ := h
  have mk := makeM_t (F := F) (k := k) (x := x) (y := y) hL hM.1 hm hk
  have fr1 : Fr 349 354 z (mmS z m (nI k) x y) := mm_fr
  have e337 : (mmS z m (nI k) x y).1 337 = z.1 337 ∧ (mmS z m (nI k) x y).2.1 337 = z.2.1 337 := fr1.2 337 (by omega)
  have R1 : RM sh n (mmS z m (nI k) x y) (upH H m (k, x, y, [])) (m + 1) fr nf na ak g lim := by
    refine ⟨fr1.lay hL, by unfold Run; rw [e337.1]; exact hr, mm_H hM hm hk, hf.of (by rw [e337.1]) (by rw [e337.1]) (fun c a b => (fr1.2 c (by omega)).1), ha.of (by rw [e337.1]) (fun c a b => fr1.2 c (by omega)), by rw [e337.1]; exact h1, by rw [e337.1]; exact h2, h3, h4⟩
  obtain ⟨z', p1, p2, p3⟩ := R1.push (F := F) (m, 0, t, 0, false) h64
  rw [rB0 rfl] at p1
  refine ⟨z', ?_, p2, (tr_frR fr1).trans p3⟩
  unfold fn_X18_make
  simp only [b_model hL, grd_true, goes_t hL hr, cal_s, if_neg one0, lnk_s, mk, p1]
/-- it ends -/
theorem RM.fin (h : RM sh n z H m fr nf na ak g lim) (o : Nat) (c : Int64) : ∃ z', fn_X18_end F sh n z 337 (nI o) c = some (z', ()) ∧ RE sh n z' o c g ∧ FrR z z' := by
  obtain ⟨hL, hr, hM, hf, ha, h1, h2, h3, h4⟩ := h
  refine ⟨sl (si z 337 27 (nI o)) 337 28 c, ?_, ⟨hL.of rfl, by simp [si_1, sl_1], by simp [sl_2], by simp [si_1, sl_1]; exact h1⟩, ⟨rfl, fun k k1 _ => ⟨?_, ?_⟩, fun j hj => ⟨?_, ?_⟩⟩⟩
  · unfold fn_X18_end
    simp only [b_model hL, grd_true, lt_t]
    rw [show z.1 337 27 = -1 from hr, if_pos (by decide)]
  · funext x; simp [sl_1, si_1, k1]
  · funext x; simp [sl_2, si_2, k1]
  · have : j ≠ 27 := fun e => hj (by rw [e]; simp [mfl])
    simp [sl_1, si_1, this]
  · have : j ≠ 28 := fun e => hj (by rw [e]; simp [mfl])
    simp [sl_2, si_2, this]
/-- gas is spent -/
theorem RM.spend (h : RM sh n z H m fr nf na ak g lim) {c : Nat} (hc : g + c ≤ lim) : ∃ z', fn_X18_spend F sh n z 337 (nI c) = some (z', 1) ∧ RM sh n z' H m fr nf na ak (g + c) lim ∧ FrR z z' := by
  obtain ⟨hL, hr, hM, hf, ha, h1, h2, h3, h4⟩ := h
  refine ⟨si z 337 26 (nI (g + c)), ?_, ⟨hL.of rfl, by unfold Run; simp [si_1]; exact hr, hM.fr (fun k a b => ?_) (fun _ _ _ => rfl), hf.of (by simp [si_1]) (by simp [si_1]) (fun c a b => ?_), ha.of (by simp [si_1]) (fun c a b => ⟨?_, rfl⟩), by simp [si_1], by simp [si_1]; exact h2, hc, h4⟩, ⟨rfl, fun k k1 _ => ⟨?_, rfl⟩, fun j hj => ⟨?_, rfl⟩⟩⟩
  · unfold fn_X18_spend
    simp only [b_model hL, grd_true, goes_t hL hr, cal_s, if_neg one0, h1, h2, lt_t, nI_add]
    rw [if_pos ((nI_leI (by omega) (by omega)).mpr hc)]
  · funext x; simp [si_1, show k ≠ 337 by omega]
  · funext x; simp [si_1, show c ≠ 337 by omega]
  · funext x; simp [si_1, show c ≠ 337 by omega]
  · funext x; simp [si_1, k1]
  · have : j ≠ 26 := fun e => hj (by rw [e]; simp [mfl])
    simp [si_1, this]
theorem RM.spendE (h : RM sh n z H m fr nf na ak g lim) {c : Nat} (hc : lim < g + c) (hc2 : c < 2 ^ 30) : ∃ z', fn_X18_spend F sh n z 337 (nI c) = some (z', 0) ∧ RE sh n z' 2 5 lim ∧ FrR z z' := by
  have h' := h
  obtain ⟨hL, hr, hM, hf, ha, h1, h2, h3, h4⟩ := h
  have R1 : RM sh n (si z 337 26 (nI lim)) H m fr nf na ak lim lim := ⟨hL.of rfl, by unfold Run; simp [si_1]; exact hr, hM.fr (fun k a b => by funext x; simp [si_1, show k ≠ 337 by omega]) (fun _ _ _ => rfl), hf.of (by simp [si_1]) (by simp [si_1]) (fun c a b => by funext x; simp [si_1, show c ≠ 337 by omega]), ha.of (by simp [si_1]) (fun c a b => ⟨by funext x; simp [si_1, show c ≠ 337 by omega], rfl⟩), by simp [si_1], by simp [si_1]; exact h2, Nat.le_refl _, h4⟩
  obtain ⟨z', p1, p2, p3⟩ := R1.fin (F := F) 2 5
  have f1 : FrR z (si z 337 26 (nI lim)) := by
    refine ⟨rfl, fun k k1 _ => ⟨?_, rfl⟩, fun j hj => ⟨?_, rfl⟩⟩
    · funext x; simp [si_1, k1]
    · have : j ≠ 26 := fun e => hj (by rw [e]; simp [mfl])
      simp [si_1, this]
  refine ⟨z', ?_, p2, f1.trans p3⟩
  unfold fn_X18_spend
  simp only [b_model hL, grd_true, goes_t hL hr, cal_s, if_neg one0, h1, h2, lt_t, nI_add]
  rw [if_neg (fun q => by have := (nI_leI (by omega) (by omega)).mp q; omega), show (2 : Int32) = nI 2 from rfl, p1, cal_s]
end
