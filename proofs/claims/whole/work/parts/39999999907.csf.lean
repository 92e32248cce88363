/-! THE CLASS'S MACHINE: module 0's functions -/
section
variable {F n : Nat} {sh : Nat → Nat × Nat} {z z' : St} {pk : Nat → Nat} {kt : Nat} {H : Hp} {m : Nat} {sl0 : Int32} {fr : Nat → Fm} {cs cl : Nat → Nat → Nat} {nf g lim na : Nat} {ak : Nat → Ask} {cn : Nat → Nat} {ws : Nat → Int64 → Nat → Bool}
def akB (x : Ask) (v : Int64) (b : Bool) : Ask := (x.1, x.2.1, x.2.2.1, v, b, x.2.2.2.2.2)
theorem CJ.bal (h : CJ z na ak cn ws) {j : Nat} (hj : j < na) (h3 : (ak j).1 = 1) {b : Bool} {v : Int64} (hb : (ak j).2.2.2.2.1 = true → b = true) (e0 : z'.1 104 7 = z.1 104 7) (e1 : ∀ k i, 105 ≤ k → k ≤ 112 → k ≠ 110 ∧ k ≠ 111 ∨ i ≠ j → z'.1 k i = z.1 k i ∧ z'.2.1 k i = z.2.1 k i) (r1 : z'.1 110 j = bI b) (r2 : z'.2.1 111 j = v) : CJ z' na (upA ak j (akB (ak j) v b)) cn ws := by
  obtain ⟨⟨a1, a0⟩, a2, a3⟩ := h
  refine ⟨⟨by rw [e0]; exact a1, a0.up rfl rfl rfl⟩, a2, fun i hi => ?_⟩
  obtain ⟨b1, b2, ⟨b3, b4, b5⟩, b6, b7, b8, b9⟩ := a3 i hi
  by_cases q : i = j
  · subst q
    have : upA ak i (akB (ak i) v b) i = akB (ak i) v b := by simp [upA]
    rw [this]
    refine ⟨b1, (e1 105 i (by omega) (by omega) (by omega)).1.trans b2, ⟨(e1 106 i (by omega) (by omega) (by omega)).2.trans b3, (e1 107 i (by omega) (by omega) (by omega)).1.trans b4, (e1 108 i (by omega) (by omega) (by omega)).1.trans b5⟩, (e1 109 i (by omega) (by omega) (by omega)).1.trans b6, ?_, fun x => ⟨r2, fun w => hb ((b8 x).2 w)⟩, fun x => absurd (h3.symm.trans x) (by decide)⟩
    rw [r1]
    show bI b = bI (if (ak i).1 = 2 then true else b)
    rw [if_neg (by omega)]
  · have : upA ak j (akB (ak j) v b) i = ak i := by simp [upA, q]
    rw [this]
    refine ⟨b1, (e1 105 i (by omega) (by omega) (by omega)).1.trans b2, ⟨(e1 106 i (by omega) (by omega) (by omega)).2.trans b3, (e1 107 i (by omega) (by omega) (by omega)).1.trans b4, (e1 108 i (by omega) (by omega) (by omega)).1.trans b5⟩, (e1 109 i (by omega) (by omega) (by omega)).1.trans b6, (e1 110 i (by omega) (by omega) (by omega)).1.trans b7, fun x => ⟨(e1 111 i (by omega) (by omega) (by omega)).2.trans (b8 x).1, (b8 x).2⟩, fun x y => (e1 112 i (by omega) (by omega) (by omega)).1.trans (b9 x y)⟩
/-- asking for the account that lies on the stack (1, 5) -/
theorem CM.coinA (h : CM sh n z pk kt H m sl0 fr cs cl nf g lim) {f v : Nat} (hf : f = 1 ∨ f = 5) (h1 : (if f = 1 then 1 else 0) < (fr (nf - 1)).2.2.1.1) (ev : cs (nf - 1) ((fr (nf - 1)).2.2.1.1 - 1 - (if f = 1 then 1 else 0)) = v) (hv : (H v).1 = 5) : fn_X4_useCoin F sh n z 87 (nI f) = cal (fn_X2_ask F sh n z 104 1 (H v).2.2.1 0 0) (fun z_93 r_94 => fn_X4_useCoin_B45 F sh n 87 (nI f) z_93 r_94) := by
  have hp := b_heap h.1
  have iv := h.2.1.i1 (i := v) (by omega)
  have lv := h.2.1.leaf (i := v) (by omega) (by unfold inn; omega)
  have ov : okA sh n 90 102 (nI v) = true := by rw [lay_a h.1 90 102 21600 (by decide) rfl]; exact iv.1
  have B : ∀ b : Nat, b = (if f = 1 then 1 else 0) → fn_X4_useCoin_B35 F sh n 87 90 104 (nI f) z (nI b) = cal (fn_X2_ask F sh n z 104 1 (H v).2.2.1 0 0) (fun z_93 r_94 => fn_X4_useCoin_B45 F sh n 87 (nI f) z_93 r_94) := fun b hb => by
    have pe := h.peek (F := F) (b := b) (by omega)
    rw [hb, ev] at pe
    unfold fn_X4_useCoin_B35
    rw [hb, pe, cal_s, ov, grd_true, (b_jour h.1).1, grd_true, iv.2, lv.2]
  rcases hf with e | e <;> subst e
  · unfold fn_X4_useCoin
    rw [if_pos (by rfl)]
    unfold fn_X4_useCoin_B12
    rw [(b_mach h.1).1, grd_true, h.1.2.2 87 2 104 rfl, lnk_s, h.1.2.2 87 1 88 rfl, lnk_s, hp.1, grd_true, hp.2.2.1, lnk_s, if_pos (by rfl)]
    exact B 1 rfl
  · unfold fn_X4_useCoin
    rw [if_neg (by decide), if_pos (by rfl)]
    unfold fn_X4_useCoin_B12
    rw [(b_mach h.1).1, grd_true, h.1.2.2 87 2 104 rfl, lnk_s, h.1.2.2 87 1 88 rfl, lnk_s, hp.1, grd_true, hp.2.2.1, lnk_s, if_neg (by decide)]
    exact B 0 rfl
theorem ucoin0 {f : Int32} (h1 : ¬ f = 1) (h5 : ¬ f = 5) : fn_X4_useCoin F sh n z 87 f = fn_X4_useCoin_B45 F sh n 87 f z 0 := by
  unfold fn_X4_useCoin
  rw [if_neg h1, if_neg h5]
theorem CM.coinE (h : CM sh n z pk kt H m sl0 fr cs cl nf g lim) {f : Int32} : ∃ z', fn_X4_useCoin_B45 F sh n 87 f z (-1) = some (z', ()) ∧ CE sh n z' 2 4 g sl0 ∧ FrC z z' := by
  obtain ⟨z1, p1, p2, p3⟩ := h.fin (F := F) 2 4
  refine ⟨z1, ?_, p2, p3⟩
  unfold fn_X4_useCoin_B45
  rw [if_neg (by decide), (b_mach h.1).1, grd_true, show (2 : Int32) = nI 2 from rfl, p1, cal_s]
theorem CM.coinG (h : CM sh n z pk kt H m sl0 fr cs cl nf g lim) {f : Int32} {e : Nat} (he : e < 24) (hg : lim < g + 5) : ∃ z', fn_X4_useCoin_B45 F sh n 87 f z (nI e) = some (z', ()) ∧ CE sh n z' 2 5 lim sl0 ∧ FrC z z' := by
  obtain ⟨z1, p1, p2, p3⟩ := h.payE (F := F) (c := 5) hg (by omega)
  refine ⟨z1, ?_, p2, p3⟩
  unfold fn_X4_useCoin_B45
  rw [if_pos (nI_pos' (by omega)), (b_mach h.1).1, grd_true, show (5 : Int32) = nI 5 from rfl, p1, cal_s, if_pos rfl]
/-- five are paid; v: what lies on top -/
theorem CM.coinP (h : CM sh n z pk kt H m sl0 fr cs cl nf g lim) {f : Int32} {e v : Nat} (he : e < 24) (hg : g + 5 ≤ lim) (h1 : 1 ≤ (fr (nf - 1)).2.2.1.1) (ev : cs (nf - 1) ((fr (nf - 1)).2.2.1.1 - 1) = v) (hv : (H v).1 ≠ 0) (hv2 : ¬ inn (H v).1) : ∃ z2, CM sh n z2 pk kt H m sl0 fr cs cl nf (g + 5) lim ∧ FrC z z2 ∧ fn_X4_useCoin_B45 F sh n 87 f z (nI e) = (if f = 0 then cal (fn_X4_withdraw F sh n z2 87 (H v).2.2.1) (fun z_76 _ => some (z_76, ())) else if f = 1 then cal (fn_X4_popOf F sh n z2 87 10) (fun z_57 r_58 => cal (fn_X4_popOf F sh n z_57 87 5) (fun z_60 r_61 => lnk (z_60.2.2 87 2) (fun k_63 => grd (okO sh n k_63 2) (lnk (z_60.2.2 k_63 8) (fun k_65 => grd (okA sh n k_65 103 (nI e)) (lt_ (si z_60 k_65 (nI e).toNatClampNeg (vp_nar .boolean 1)) (fun z_68 => lnk (z_68.2.2 87 2) (fun k_69 => grd (okO sh n k_69 2) (lnk (z_68.2.2 k_69 9) (fun k_71 => grd (okA sh n k_71 102 (nI e)) (grd (okA sh n k_71 102 (nI e)) (lt_ (sl z_68 k_71 (nI e).toNatClampNeg ((z_68.2.1 k_71 (nI e).toNatClampNeg) + (H v).2.2.1)) (fun z_75 => some (z_75, ())))))))))))))) else if f = 2 then lnk (z2.2.2 87 1) (fun k_45 => grd (okO sh n k_45 1) (lnk (z2.2.2 k_45 1) (fun k_47 => cal (fn_X4_pop F sh n z2 87) (fun z_48 r_49 => cal (fn_X4_target F sh n z_48 87 r_49) (fun z_51 r_52 => grd (okA sh n k_47 102 r_52) (cal (fn_X4_pushNumber F sh n z_51 87 3 0 (z_51.2.1 k_47 r_52.toNatClampNeg)) (fun z_55 _ => some (z_55, ())))))))) else if f = 3 then cal (fn_X4_popOf F sh n z2 87 10) (fun z_33 r_34 => lnk (z_33.2.2 87 1) (fun k_36 => grd (okO sh n k_36 1) (lnk (z_33.2.2 k_36 1) (fun k_38 => cal (fn_X4_popOf F sh n z_33 87 10) (fun z_39 r_40 => grd (okA sh n k_38 102 r_40) (cal (fn_X4_pushNumber F sh n z_39 87 10 0 ((z_39.2.1 k_38 r_40.toNatClampNeg) + (H v).2.2.1)) (fun z_43 _ => some (z_43, ())))))))) else if f = 4 then cal (fn_X4_split F sh n z2 87 (H v).2.2.1) (fun z_31 _ => some (z_31, ())) else cal (fn_X4_popOf F sh n z2 87 5) (fun z_22 r_23 => lnk (z_22.2.2 87 2) (fun k_25 => grd (okO sh n k_25 2) (lnk (z_22.2.2 k_25 9) (fun k_27 => grd (okA sh n k_27 102 (nI e)) (cal (fn_X4_pushNumber F sh n z_22 87 3 0 (z_22.2.1 k_27 (nI e).toNatClampNeg)) (fun z_29 _ => some (z_29, ())))))))) := by
  obtain ⟨z2, p1, p2, p3⟩ := h.pay (F := F) (c := 5) hg
  refine ⟨z2, p2, p3, ?_⟩
  have hp := b_heap p2.1
  have pe := p2.peek (F := F) (b := 0) (by omega)
  have pe' : fn_X4_peek F sh n z2 87 0 = some (z2, nI v) := by rw [← ev]; exact pe
  have iv := p2.2.1.i1 hv
  have lv := p2.2.1.leaf hv hv2
  have ov : okA sh n 90 102 (nI v) = true := by rw [lay_a h.1 90 102 21600 (by decide) rfl]; exact iv.1
  conv => lhs; unfold fn_X4_useCoin_B45
  rw [if_pos (nI_pos' (by omega)), (b_mach h.1).1, grd_true, show (5 : Int32) = nI 5 from rfl, p1, cal_s, if_neg one0, p2.1.2.2 87 1 88 rfl, lnk_s, hp.1, grd_true, hp.2.2.1, lnk_s, pe', cal_s, ov, grd_true, iv.2, lv.2, lt_t]
  rw [p2.1.2.2 87 1 88 rfl]
end
