/-! THE REFERENCE'S MACHINE: withdraw -/
section
variable {F n : Nat} {sh : Nat → Nat × Nat} {z z1 z' : St} {H : Hp} {m : Nat} {fr : Nat → Fm} {nf na : Nat} {ak : Nat → Ask} {g lim : Nat}
/-- withdraw -/
theorem RM.coin0 (hF : 300 ≤ F) (h : RM sh n z H m fr nf na ak g lim) (w : Nw H m) (hna : 0 < na) (h3 : (ak 0).1 ≠ 3) (h1 : 1 ≤ (fr (nf - 1)).2.2.1.1) (h64 : (fr (nf - 1)).2.2.1.1 ≤ 64) {b : Nat} (eb : ((fr (nf - 1)).2.2.1.2 ((fr (nf - 1)).2.2.1.1 - 1)).1 = b) (h0 : ((fr (nf - 1)).2.2.1.2 ((fr (nf - 1)).2.2.1.1 - 1)).2.1 = 0) (ha : (H b).1 = 3) (hm : m + 1 < 24576) (t : Nat) : (lim < g + 5 → ∃ z', fn_X18_coin F sh n z 337 0 = some (z', ()) ∧ RE sh n z' 2 5 lim ∧ FrR z z') ∧ (g + 5 ≤ lim → (ult (ak 0).2.2.2.1 (H b).2.2.1 = true → ∃ z', fn_X18_coin F sh n z 337 0 = some (z', ()) ∧ RE sh n z' 1 1 (g + 5) ∧ FrR z z') ∧ (ult (ak 0).2.2.2.1 (H b).2.2.1 = false → ∃ z', fn_X18_coin F sh n z 337 0 = some (z', ()) ∧ RM sh n z' (upH (upH H m (6, 0, 0, [m + 1])) (m + 1) (3, 0, (H b).2.2.1, [])) (m + 2) (setF fr (nf - 1) (pshV (setH (fr (nf - 1)) ((fr (nf - 1)).2.2.1.1 - 1)) (m, 0, t, 0, false))) nf na (upA ak 0 ((ak 0).1, (ak 0).2.1, (ak 0).2.2.1, (ak 0).2.2.2.1 - (H b).2.2.1, (ak 0).2.2.2.2.1, (ak 0).2.2.2.2.2)) (g + 5) lim ∧ FrR z z')) := by
  obtain ⟨z1, p1, p2, p3⟩ := h.takeL (F := F) h1 h0 (by rw [eb]; exact ha)
  rw [eb] at p1
  constructor
  · intro hg
    obtain ⟨z2, s1, s2, s3⟩ := p2.spendE (F := F) hg (by omega)
    refine ⟨z2, ?_, s2, p3.trans s3⟩
    unfold fn_X18_coin
    rw [if_pos rfl]
    simp only [b_model h.1, grd_true, p1, cal_s, show (5 : Int32) = nI 5 from rfl, s1, ↓reduceIte]
  · intro hg
    obtain ⟨z2, s1, s2, s3⟩ := p2.spend (F := F) hg
    have rb := (s2.2.2.2.2.1.2.2 0 hna).2.2.2.1
    have o0 : okA sh n 388 102 0 = true := by
      rw [lay_a s2.1 388 102 24 (by decide) rfl]; exact okI_nI (j := 0) (N := 24) (by omega) (by omega)
    have k0 : (0 : Int32).toNatClampNeg = 0 := rfl
    have st : fn_X18_coin F sh n z 337 0 = if (bI (ult (ak 0).2.2.2.1 (H b).2.2.1) : Int32) = 0 then (lt_ (sl z2 388 0 ((ak 0).2.2.2.1 - (H b).2.2.1)) (fun z_169 => cal (fn_X18_makeCoin F sh n z_169 337 (H b).2.2.1) (fun z_170 _ => some (z_170, ())))) else cal (fn_X18_end F sh n z2 337 1 1) (fun z_172 _ => some (z_172, ())) := by
      unfold fn_X18_coin
      rw [if_pos rfl, (b_model h.1).1, grd_true, p1, cal_s, show (5 : Int32) = nI 5 from rfl, s1, cal_s, if_neg one0, s2.1.2.2 337 33 388 rfl, lnk_s, o0, grd_true, k0, rb, isBelow_t, cal_s, s2.1.2.2 337 33 388 rfl, lnk_s, o0, grd_true, grd_true, rb]
    rw [st]
    constructor
    · intro hc
      obtain ⟨z3, q1, q2, q3⟩ := s2.fin (F := F) 1 1
      refine ⟨z3, ?_, q2, (p3.trans s3).trans q3⟩
      rw [hc, if_neg (by decide), show (1 : Int32) = nI 1 from rfl, q1, cal_s]
    · intro hc
      obtain ⟨b1, b2⟩ := s2.setB hna h3 ((ak 0).2.2.2.1 - (H b).2.2.1)
      obtain ⟨z3, q1, q2, q3⟩ := b1.mkCoin (F := F) hF w hm (by rw [setF_s, setH_T]; omega) t (H b).2.2.1
      rw [setF_s, setF_2] at q2
      refine ⟨z3, ?_, q2, ((p3.trans s3).trans b2).trans q3⟩
      rw [hc, if_pos (by decide), lt_t, q1, cal_s]
end
