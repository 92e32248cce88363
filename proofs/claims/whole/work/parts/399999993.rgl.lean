/-! THE REFERENCE'S MACHINE: 32, 33 -/
section
variable {F n : Nat} {sh : Nat → Nat × Nat} {z z1 z' : St} {H : Hp} {m : Nat} {fr : Nat → Fm} {nf na : Nat} {ak : Nat → Ask} {g lim : Nat}
theorem lN_ib {k : Nat} (h : k < 256) : (lN k).toInt32 = nI k := by
  have : ∀ k, k < 256 → (lN k).toInt32 = nI k := by decide +kernel
  exact this k h
def bt (k : Nat) : Nat := if k = 2 then 8 else if k = 4 then 128 else 64
theorem bt_3 (k : Nat) : bt k = 8 ∨ bt k = 64 ∨ bt k = 128 := by unfold bt; split; exact .inl rfl; split; exact .inr (.inr rfl); exact .inr (.inl rfl)
theorem RM.shift (hF : 300 ≤ F) (h : RM sh n z H m fr nf na ak g lim) (h2 : 2 ≤ (fr (nf - 1)).2.2.1.1) (h64 : (fr (nf - 1)).2.2.1.1 ≤ 64) (h0 : ((fr (nf - 1)).2.2.1.2 ((fr (nf - 1)).2.2.1.1 - 1)).2.1 = 0) (h1 : ((fr (nf - 1)).2.2.1.2 ((fr (nf - 1)).2.2.1.1 - 2)).2.1 = 0) {a b t k : Nat} (ea : ((fr (nf - 1)).2.2.1.2 ((fr (nf - 1)).2.2.1.1 - 2)).1 = a) (eb : ((fr (nf - 1)).2.2.1.2 ((fr (nf - 1)).2.2.1.1 - 1)).1 = b) (ha : (H a).1 ≠ 0) (hb : (H b).1 = 2) (hk : (H b).2.2.1 = lN k) (hk2 : k < 256) (hm : m < 24576) (up : Bool) : (bt (H a).1 ≤ k → ∃ z', fn_X18_shift F sh n z 337 (bI up) = some (z', ()) ∧ RE sh n z' 2 1 g ∧ FrR z z') ∧ (k < bt (H a).1 → ∃ z' x y, V2 x y = sh2 up (V2 (H a).2.1 (H a).2.2.1) k % 2 ^ bt (H a).1 ∧ fn_X18_shift F sh n z 337 (bI up) = some (z', ()) ∧ RM sh n z' (upH H m ((H a).1, x, y, [])) (m + 1) (setF fr (nf - 1) (pshV (setH (fr (nf - 1)) ((fr (nf - 1)).2.2.1.1 - 2)) (m, 0, t, 0, false))) nf na ak g lim ∧ FrR z z') := by
  have hb0 : (H b).1 ≠ 0 := by omega
  obtain ⟨z1, p1, p2, p3⟩ := h.takeK (F := F) (by omega) h0 (by rw [eb]; exact hb0)
  rw [eb, hb] at p1
  have e21 : (fr (nf - 1)).2.2.1.1 - 1 - 1 = (fr (nf - 1)).2.2.1.1 - 2 := by omega
  obtain ⟨z2, q1, q2, q3⟩ := p2.takeV (F := F) (by rw [setF_s, setH_T]; omega) (by rw [setF_s]; simp only [setH]; rw [e21]; exact h1)
  have e : setH (setH (fr (nf - 1)) ((fr (nf - 1)).2.2.1.1 - 1)) ((setH (fr (nf - 1)) ((fr (nf - 1)).2.2.1.1 - 1)).2.2.1.1 - 1) = setH (fr (nf - 1)) ((fr (nf - 1)).2.2.1.1 - 2) := by rw [setH_T, e21]; rfl
  rw [setF_s, setF_2, e] at q2
  rw [setF_s] at q1
  simp only [setH] at q1
  rw [e21, ea] at q1
  obtain ⟨x1, x2⟩ := q2.2.2.1.i1 ha
  obtain ⟨y1, y2⟩ := q2.2.2.1.i1 hb0
  obtain ⟨r1, r2, r3, _, _⟩ := q2.2.2.1.row ha
  have s3 := (q2.2.2.1.row hb0).2.2.1
  have L2 := q2.1
  have t2 := b_trees L2
  have oa0 : okA sh n 350 100 (nI a) = true := by rw [lay_a L2 350 100 24576 (by decide) rfl]; exact x1
  have oa1 : okA sh n 351 102 (nI a) = true := by rw [lay_a L2 351 102 24576 (by decide) rfl]; exact x1
  have oa2 : okA sh n 352 102 (nI a) = true := by rw [lay_a L2 352 102 24576 (by decide) rfl]; exact x1
  have ob2 : okA sh n 352 102 (nI b) = true := by rw [lay_a L2 352 102 24576 (by decide) rfl]; exact y1
  have bt0 : fn_X18_bitsOf F sh n z2 (nI (H a).1) = some (z2, nI (bt (H a).1)) := bits_t (q2.2.2.1.k8 ha)
  have l15 := L2.2.2 337 15 349 rfl
  have b3 := bt_3 (H a).1
  have bl : (nI (bt (H a).1)).toInt64 = lN (bt (H a).1) := nI_l (by omega)
  constructor
  · intro hle
    obtain ⟨z3, w1, w2, w3⟩ := q2.fin (F := F) 2 1
    refine ⟨z3, ?_, w2, (p3.trans q3).trans w3⟩
    have nl : ¬ lN k < lN (bt (H a).1) := by rw [Int64.not_lt]; exact (pk_lLE (by omega) (by omega)).mpr hle
    unfold fn_X18_shift
    rw [(b_model h.1).1, grd_true, show (2 : Int32) = nI 2 from rfl, p1, cal_s, q1, cal_s, q2.goes, cal_s, if_neg one0, l15, lnk_s, t2.1, grd_true, t2.2.1, lnk_s, oa0, grd_true, x2, r1, bt0, cal_s, l15, lnk_s, t2.1, grd_true, t2.2.2.2.1, lnk_s, ob2, grd_true, y2, s3, hk, bl, if_neg nl, w1, cal_s]
  · intro hlt
    obtain ⟨z3, w1, w2, w3⟩ := shM_t (F := F) (z := z2) hF (w := 368) (up := up) (b_wider L2).1 hk2 b3 (H a).2.1 (H a).2.2.1
    have k1 : ∀ c, c ≠ 368 → z3.1 c = z2.1 c ∧ z3.2.1 c = z2.2.1 c := fun c hc => ⟨by rw [w3.1], w3.2.2 c hc⟩
    have R3 : RM sh n z3 H m (setF fr (nf - 1) (setH (fr (nf - 1)) ((fr (nf - 1)).2.2.1.1 - 2))) nf na ak g lim := q2.mov w3.2.1 (by rw [w3.1]) (fun c _ _ => by rw [w3.1]) (fun c a b => w3.2.2 c (by omega)) (q2.2.2.1.fr (fun c _ _ => by rw [w3.1]) (fun c a b => w3.2.2 c (by omega)))
    have f3 : FrR z2 z3 := ⟨w3.2.1, fun c a b => k1 c (fun q => b (by rw [q]; right; left; omega)), fun j _ => by rw [w3.1, w3.2.2 337 (by omega)]; exact ⟨rfl, rfl⟩⟩
    obtain ⟨z4, v1, v2, v3⟩ := R3.make (F := F) (k := (H a).1) (x := z3.2.1 368 3) (y := z3.2.1 368 4) t (R3.2.2.1.k8 ha) hm (by rw [setF_s, setH_T]; omega)
    rw [setF_s, setF_2] at v2
    refine ⟨z4, z3.2.1 368 3, z3.2.1 368 4, w2, ?_, v2, ((p3.trans q3).trans f3).trans v3⟩
    have lt : lN k < lN (bt (H a).1) := by
      apply Int64.not_le.mp
      intro q
      have := (pk_lLE (by omega) (by omega)).mp q
      omega
    have L3 := R3.1
    have t3 := b_trees L3
    have r1' := (R3.2.2.1.row ha).1
    unfold fn_X18_shift
    rw [(b_model h.1).1, grd_true, show (2 : Int32) = nI 2 from rfl, p1, cal_s, q1, cal_s, q2.goes, cal_s, if_neg one0, l15, lnk_s, t2.1, grd_true, t2.2.1, lnk_s, oa0, grd_true, x2, r1, bt0, cal_s, l15, lnk_s, t2.1, grd_true, t2.2.2.2.1, lnk_s, ob2, grd_true, y2, s3, hk, bl, if_pos lt, L2.2.2 337 17 368 rfl, lnk_s, lnk_s, t2.1, grd_true, t2.2.2.1, lnk_s, oa1, grd_true, lnk_s, t2.1, grd_true, t2.2.2.2.1, lnk_s, oa2, grd_true, lnk_s, t2.1, grd_true, t2.2.2.2.1, lnk_s, ob2, grd_true, (b_wider L2).1, grd_true, r2, r3, s3, hk, lN_ib hk2, w1, cal_s, L3.2.2 337 15 349 rfl, lnk_s, t3.1, grd_true, t3.2.1, lnk_s, oa0, grd_true, L3.2.2 337 17 368 rfl, lnk_s, (b_wider L3).1, grd_true, lnk_s, (b_wider L3).1, grd_true, r1', v1, cal_s]
end
