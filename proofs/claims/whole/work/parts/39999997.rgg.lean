/-! THE REFERENCE'S MACHINE: a coin is split -/
section
variable {F n : Nat} {sh : Nat → Nat × Nat} {z z1 z' : St} {H : Hp} {m : Nat} {fr : Nat → Fm} {nf na : Nat} {ak : Nat → Ask} {g lim : Nat}
/-- a coin is split -/
theorem RM.coin4 (hF : 300 ≤ F) (h : RM sh n z H m fr nf na ak g lim) (w : Nw H m) (h2 : 2 ≤ (fr (nf - 1)).2.2.1.1) (h64 : (fr (nf - 1)).2.2.1.1 ≤ 64) {a b ca : Nat} (ea : ((fr (nf - 1)).2.2.1.2 ((fr (nf - 1)).2.2.1.1 - 2)).1 = a) (eb : ((fr (nf - 1)).2.2.1.2 ((fr (nf - 1)).2.2.1.1 - 1)).1 = b) (h0 : ((fr (nf - 1)).2.2.1.2 ((fr (nf - 1)).2.2.1.1 - 1)).2.1 = 0) (h1 : ((fr (nf - 1)).2.2.1.2 ((fr (nf - 1)).2.2.1.1 - 2)).2.1 = 0) (ha : (H a).1 = 6) (hb : (H b).1 = 3) (hca : kds H a = [ca]) (hm : m + 3 < 24576) (t : Nat) : (lim < g + 5 → ∃ z', fn_X18_coin F sh n z 337 4 = some (z', ()) ∧ RE sh n z' 2 5 lim ∧ FrR z z') ∧ (g + 5 ≤ lim → (ult (H ca).2.2.1 (H b).2.2.1 = true → ∃ z', fn_X18_coin F sh n z 337 4 = some (z', ()) ∧ RE sh n z' 1 2 (g + 5) ∧ FrR z z') ∧ (ult (H ca).2.2.1 (H b).2.2.1 = false → ∃ z', fn_X18_coin F sh n z 337 4 = some (z', ()) ∧ RM sh n z' (upH (upH (upH (upH H m (6, 0, 0, [m + 1])) (m + 1) (3, 0, (H ca).2.2.1 - (H b).2.2.1, [])) (m + 2) (6, 0, 0, [m + 3])) (m + 3) (3, 0, (H b).2.2.1, [])) (m + 4) (setF fr (nf - 1) (pshV (pshV (setH (fr (nf - 1)) ((fr (nf - 1)).2.2.1.1 - 2)) (m, 0, t, 0, false)) (m + 2, 0, t, 0, false))) nf na ak (g + 5) lim ∧ FrR z z')) := by
  obtain ⟨z1, zb, p1, p1', p2, p3⟩ := h.takeLK (F := F) h2 ea eb h0 h1 (by omega) hb
  rw [ha] at p1'
  constructor
  · intro hg
    obtain ⟨z2, s1, s2, s3⟩ := p2.spendE (F := F) hg (by omega)
    refine ⟨z2, ?_, s2, p3.trans s3⟩
    unfold fn_X18_coin
    rw [if_neg (by decide), if_neg (by decide), if_neg (by decide), if_neg (by decide), if_pos rfl]
    simp only [b_model h.1, grd_true, show (6 : Int32) = nI 6 from rfl, p1, p1', cal_s, show (5 : Int32) = nI 5 from rfl, s1, ↓reduceIte]
  · intro hg
    obtain ⟨z2, s1, s2, s3⟩ := p2.spend (F := F) hg
    obtain ⟨w1, w2, w3, w4, w5, w6⟩ := coinP s2 (show (H a).1 ≠ 0 by omega) hca
    have st : fn_X18_coin F sh n z 337 4 = if (bI (ult (H ca).2.2.1 (H b).2.2.1) : Int32) = 0 then cal (fn_X18_makeCoin F sh n z2 337 ((H ca).2.2.1 - (H b).2.2.1)) (fun z_56 _ => cal (fn_X18_makeCoin F sh n z_56 337 (H b).2.2.1) (fun z_58 _ => some (z_58, ()))) else cal (fn_X18_end F sh n z2 337 1 2) (fun z_60 _ => some (z_60, ())) := by
      have t1 := b_trees s2.1
      have l15 := s2.1.2.2 337 15 349 rfl
      have oa : okA sh n 353 101 (nI a) = true := by rw [lay_a s2.1 353 101 24576 (by decide) rfl]; exact w1
      have oc : okA sh n 352 102 (nI ca) = true := by rw [lay_a s2.1 352 102 24576 (by decide) rfl]; exact w4
      unfold fn_X18_coin
      rw [if_neg (by decide), if_neg (by decide), if_neg (by decide), if_neg (by decide), if_pos rfl, (b_model h.1).1, grd_true, p1, cal_s, show (6 : Int32) = nI 6 from rfl, p1', cal_s, show (5 : Int32) = nI 5 from rfl, s1, cal_s, if_neg one0, l15, lnk_s, t1.1, grd_true, t1.2.2.2.1, lnk_s, lnk_s, t1.1, grd_true, t1.2.2.2.2.1, lnk_s, oa, grd_true, w2, w3, oc, grd_true, w5, w6, lt_t, isBelow_t, cal_s]
    rw [st]
    constructor
    · intro hc
      obtain ⟨z3, q1, q2, q3⟩ := s2.fin (F := F) 1 2
      refine ⟨z3, ?_, q2, (p3.trans s3).trans q3⟩
      rw [hc, if_neg (by decide), show (1 : Int32) = nI 1 from rfl, q1, cal_s]
    · intro hc
      obtain ⟨z3, q1, q2, q3⟩ := s2.mkCoin (F := F) hF w (by omega) (by rw [setF_s, setH_T]; omega) t ((H ca).2.2.1 - (H b).2.2.1)
      rw [setF_s, setF_2] at q2
      have w' : Nw (upH (upH H m (6, 0, 0, [m + 1])) (m + 1) (3, 0, (H ca).2.2.1 - (H b).2.2.1, [])) (m + 2) := by
        obtain ⟨x1, x2, _⟩ := w.mk (k := 6) (x := 0) (y := 0) (by omega)
        obtain ⟨y1, y2, _⟩ := x1.mk (k := 3) (x := 0) (y := (H ca).2.2.1 - (H b).2.2.1) (by omega)
        have n1 : m ≠ m + 1 := by omega
        obtain ⟨u1, _⟩ := y1.add (v := m) (c := m + 1) (by rw [upH_n n1, upH_s]; simp) (by rw [upH_s]; simp) y2
        have km : kds (upH (upH H m (6, 0, 0, [])) (m + 1) (3, 0, (H ca).2.2.1 - (H b).2.2.1, [])) m = [] := by unfold kds; rw [upH_n n1, upH_s]
        have eH : upH (upH (upH H m (6, 0, 0, [])) (m + 1) (3, 0, (H ca).2.2.1 - (H b).2.2.1, [])) m (setC ((upH (upH H m (6, 0, 0, [])) (m + 1) (3, 0, (H ca).2.2.1 - (H b).2.2.1, [])) m) (kds (upH (upH H m (6, 0, 0, [])) (m + 1) (3, 0, (H ca).2.2.1 - (H b).2.2.1, [])) m ++ [m + 1])) = upH (upH H m (6, 0, 0, [m + 1])) (m + 1) (3, 0, (H ca).2.2.1 - (H b).2.2.1, []) := by
          funext i
          by_cases q : i = m
          · subst q
            rw [upH_s, km, upH_n n1, upH_s, upH_n n1, upH_s]; rfl
          · rw [upH_n q]
            by_cases q2 : i = m + 1
            · subst q2; rw [upH_s, upH_s]
            · rw [upH_n q2, upH_n q, upH_n q2, upH_n q]
        rw [eH] at u1
        exact u1
      obtain ⟨z4, r1, r2, r3⟩ := q2.mkCoin (F := F) hF w' (by omega) (by rw [setF_s]; simp only [pshV, setN, setH]; omega) t (H b).2.2.1
      rw [setF_s, setF_2] at r2
      refine ⟨z4, ?_, r2, ((p3.trans s3).trans q3).trans r3⟩
      rw [hc, if_pos (by decide), q1, cal_s, r1, cal_s]
end
