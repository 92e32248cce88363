/-! A TRANSACTION IS REFUSED OR NOT, both sides -/
section
variable {F n : Nat} {sh : Nat → Nat × Nat} {z y : St} {ws : Nat → Md} {wc : Nat} {dp : Nat → Nat → Nat} {t f c m : Nat} {kd : Nat → Nat} {nc nr : Nat} {ac : Nat → Int64 × Int64 × Int64} {rs : Nat → Int64 × Nat × Hp × Nat} {so : Nat → Option Rsc} {sd sq : Int64} {lim rest : Nat}
theorem refC_0 (hF : 300 ≤ F) (hL : Lay sh n y) (cg : CLg y nc ac nr so) (ht : t < 32) (h1 : y.2.1 (113 + 7 * t) 1 = sd) (h2 : y.2.1 (113 + 7 * t) 2 = sq) (h3 : y.1 (113 + 7 * t) 3 = nI lim) (hl : lim ≤ 20000) (hT : (if ((y.1 (113 + 7 * t) 0) : Int32) = 0 then some (y, 0) else cal (fn_X7_findProgram F sh n y 3 (y.1 (113 + 7 * t) 4)) (fun z_21 r_22 => nul r_22 (some (z_21, 4)) (fun k_25 => grd (okO sh n k_25 5) (if ((z_21.1 (113 + 7 * t) 5) : Int32) < (z_21.1 k_25 11) then cal (fn_X5_flags F sh n z_21 k_25 (z_21.1 (113 + 7 * t) 5)) (fun z_28 r_29 => if ((r_29 &&& 2) : Int32) = 0 then some (z_28, 6) else cal (fn_X8_fits F sh n z_28 (113 + 7 * t) k_25) (fun z_32 r_33 => if (r_33 : Int32) = 0 then some (z_32, 7) else cal (fn_X5_givesPlain F sh n z_32 k_25 (z_32.1 (113 + 7 * t) 5)) (fun z_36 r_37 => if (r_37 : Int32) = 0 then some (z_36, 8) else some (z_36, 0)))) else some (z_21, 5))))) = some (y, nI rest)) : fn_X11_refusalOf F sh n y 0 (113 + 7 * t) = some (y, nI (rfT nc ac sd sq lim rest)) := by
  have S := b_state hL
  have G := b_ledg hL
  unfold fn_X11_refusalOf rfT
  rw [G.1, grd_true, G.2.2.2.1, lnk_s, lay_o hL _ 8 0 (by omega) (tx_sh t ht).1, grd_true, S.1, grd_true, h1, cfindA_t hF hL cg, cal_s]
  cases e : fdA nc ac sd with
  | none => rw [if_neg (show ¬ (0 : Int32) ≤ oI none by decide)]; rfl
  | some i =>
    have hi := fd_lt _ _ _ e
    have n256 := cg.1.2.1
    have oi : okI (nI i) 256 = true := okI_nI (by omega) (by omega)
    have ci : (nI i).toNatClampNeg = i := nI_clamp (by omega)
    obtain ⟨q1, q2, q3⟩ := cg.1.2.2 i (by omega)
    rw [if_pos (oI0 i (by omega)).1, show oI (some i) = nI i from rfl, G.2.2.2.1, lnk_s, S.1, grd_true, S.2.2.2.1, lnk_s, lay_a hL 6 102 256 (by decide) rfl, oi, grd_true, ci, q3, h2]
    show _ = some (y, nI (if (ac i).2.2 = sq then (if lN lim ≤ (ac i).2.1 then rest else 3) else 2))
    by_cases p : (ac i).2.2 = sq
    · rw [if_pos p, if_pos p, lnk_s, S.1, grd_true, S.2.2.1, lnk_s, lay_a hL 5 102 256 (by decide) rfl, oi, grd_true, q2, h3, lIi (by omega)]
      by_cases p2 : lN lim ≤ (ac i).2.1
      · rw [if_pos p2, if_pos p2]
        simp only [G.2.2.2.1, lnk_s, S.1, grd_true]
        exact hT
      · rw [if_neg p2, if_neg p2]; rfl
    · rw [if_neg p, if_neg p]; rfl
theorem refC_p (hF : 300 ≤ F) (hL : Lay sh n y) (cg : CLg y nc ac nr so) (ht : t < 32) (h1 : y.2.1 (113 + 7 * t) 1 = sd) (h2 : y.2.1 (113 + 7 * t) 2 = sq) (h3 : y.1 (113 + 7 * t) 3 = nI lim) (hl : lim ≤ 20000) (h0 : y.1 (113 + 7 * t) 0 = 0) : fn_X11_refusalOf F sh n y 0 (113 + 7 * t) = some (y, nI (rfT nc ac sd sq lim 0)) :=
  refC_0 hF hL cg ht h1 h2 h3 hl (if_pos h0)
theorem refC_m (hF : 300 ≤ F) (hW : CWo sh n y ws wc dp) (hN : WNo ws wc) (cg : CLg y nc ac nr so) (ht : t < 32) (h1 : y.2.1 (113 + 7 * t) 1 = sd) (h2 : y.2.1 (113 + 7 * t) 2 = sq) (h3 : y.1 (113 + 7 * t) 3 = nI lim) (hl : lim ≤ 20000) (h0 : y.1 (113 + 7 * t) 0 = 1) (h4 : y.1 (113 + 7 * t) 4 = nI m) (hm : m < 65536) (hf : f < 64) (h5 : y.1 (113 + 7 * t) 5 = nI f) (h7 : y.1 (113 + 7 * t) 7 = nI c) (hc : c ≤ 8) (hk : ∀ i, i < c → 1 ≤ kd i ∧ kd i ≤ 5) (ha : ∀ i, i < c → y.1 (113 + 7 * t + 1) i = nI (kd i)) : fn_X11_refusalOf F sh n y 0 (113 + 7 * t) = some (y, nI (rfT nc ac sd sq lim (rfN ws wc m f c kd))) := by
  refine refC_0 hF hW.1 cg ht h1 h2 h3 hl ?_
  rw [h0, if_neg (show ¬ ((1 : Int32) = 0) by decide), h4, hW.find (by omega) hN.2.1 hm, cal_s]
  unfold rfN
  cases e : wfi ws m (wc + 1) 0 with
  | none => rfl
  | some i =>
    obtain ⟨_, w2, _⟩ := wfi_s e
    obtain ⟨⟨kb, b, len, M, c1, c2, c3, c4, c5⟩, _⟩ := hW.2.2.2 i (by omega)
    have w8 := hW.2.2.1
    show nul (some (15 + 5 * i)) _ _ = some (y, nI (rfU (ws i) f c kd))
    have ok5 : okO sh n (15 + 5 * i) 5 = true := (c1.1.cnL (F := F) c1.hb).1
    rw [nul_s, ok5, grd_true, c2]
    exact refU_c (by omega) c1 c4 ht hf h5 h7 hc hk ha
/-- the reference's side: what it says of a call -/
theorem refR_m (hF : 300 ≤ F) (hW : RWo sh n z ws wc dp) (hN : WNo ws wc) (ht : t < 32) (h4 : z.1 404 t = nI m) (hm : m < 65536) (hf : f < 64) (h5 : z.1 405 t = nI f) (h7 : z.1 406 t = nI c) (hc : c ≤ 8) (hk : ∀ i, i < c → 1 ≤ kd i ∧ kd i ≤ 5) (ha : ∀ i, i < c → z.1 407 (8 * t + i) = nI (kd i)) : fn_X18_findModule F sh n z 337 (nI m) = some (z, nI (wix ws wc m)) ∧ fn_X18_refusal F sh n z 337 (nI t) (nI (wix ws wc m)) = some (z, nI (rfN ws wc m f c kd)) := by
  have hL := hW.1
  have w8 := hW.2.2.1
  have u00 : (ws 0).1.1 = 0 := by rw [hN.1, U0_n]
  have zero : wix ws wc m = 0 → fn_X18_refusal F sh n z 337 (nI t) (nI 0) = some (z, if m = 0 then (if f ≤ 5 then 6 else 5) else 4) := fun _ => by
    unfold fn_X18_refusal
    rw [(b_model hL).1, grd_true, hL.2.2 337 59 405 rfl, lnk_s, md_at hL ht 405 101 rfl (by decide), grd_true, nI_clamp (by omega), h5, lt_t, if_pos (show nI 0 = 0 from rfl), hL.2.2 337 58 404 rfl, lnk_s, md_at hL ht 404 101 rfl (by decide), grd_true, h4]
    by_cases q : m = 0
    · rw [if_pos (show nI m = 0 by rw [q]; rfl), if_pos q]
      by_cases q5 : f ≤ 5
      · rw [if_pos (show nI f ≤ 5 from (nI_leW (b := 5) (by omega) (by omega)).mpr q5), if_pos q5]
      · rw [if_neg (show ¬ nI f ≤ 5 from fun e => q5 ((nI_leW (b := 5) (by omega) (by omega)).mp e)), if_neg q5]
    · rw [if_neg (show ¬ nI m = 0 from fun e => q (nI_uq (b := 0) e (by omega) (by omega))), if_neg q]
  have fm : fn_X18_findModule F sh n z 337 (nI m) = some (z, nI (wix ws wc m)) := by
    by_cases q : m = 0
    · obtain ⟨i, i1, i2, i3⟩ := hW.findAny (F := F) (by omega) (nI m)
      have i0 : i = 0 := by
        by_cases c : i = 0
        · exact c
        · have := nI_uq (i3 (by omega)) (by have := hN.2.1 i i1; omega) (by omega)
          exact hN.2.2 i 0 i1 (by omega) (by rw [this, u00, q])
      have : wix ws wc m = 0 := by
        unfold wix
        cases e : wfi ws m (wc + 1) 0 with
        | none => rfl
        | some j =>
          obtain ⟨_, j2, j3⟩ := wfi_s e
          exact hN.2.2 j 0 (by omega) (by omega) (by rw [j3, u00, q])
      rw [i2, i0, this]
    · exact hW.find (by omega) hN (by omega) hm
  refine ⟨fm, ?_⟩
  unfold rfN
  cases e : wfi ws m (wc + 1) 0 with
  | none =>
    have w0 : wix ws wc m = 0 := by unfold wix; rw [e]
    have m0 : m ≠ 0 := fun q => by
      have := hN.at (i := 0) (by omega)
      rw [u00] at this
      rw [q, this] at e; cases e
    rw [w0, zero w0, if_neg m0]; rfl
  | some i =>
    obtain ⟨_, w2, w3⟩ := wfi_s e
    have wi : wix ws wc m = i := by unfold wix; rw [e]
    show _ = some (z, nI (rfU (ws i) f c kd))
    by_cases q : i = 0
    · subst q
      have m0 : m = 0 := by rw [← w3, u00]
      rw [wi, zero wi, if_pos m0, hN.1]
      unfold rfU
      rw [U0_f.1]
      by_cases q5 : f ≤ 5
      · rw [if_pos q5, if_pos (show f < 6 by omega), if_pos (U0_fl f (by omega))]; rfl
      · rw [if_neg q5, if_neg (show ¬ f < 6 by omega)]; rfl
    · obtain ⟨⟨b, len, M, c1, c2, c3, c4, c5⟩, _⟩ := hW.2.2.2 i (by omega) (by omega)
      rw [wi, c2]
      exact refU_r hF c1 c3 ht hf rfl (by omega) h5 h7 hc hk ha
end
