/-! THE CLASS'S MACHINE: reckoning (24 .. 44) -/
def FrW (z z' : St) : Prop := z'.2.2 = z.2.2 ∧ ∀ k, k ≠ 93 → z'.1 k = z.1 k ∧ z'.2.1 k = z.2.1 k
theorem FrW.rfl' {z : St} : FrW z z := ⟨rfl, fun _ _ => ⟨rfl, rfl⟩⟩
theorem FrW.trans {z z' z'' : St} (h : FrW z z') (g : FrW z' z'') : FrW z z'' := ⟨g.1.trans h.1, fun k a => ⟨(g.2 k a).1.trans (h.2 k a).1, (g.2 k a).2.trans (h.2 k a).2⟩⟩
theorem FrW.sl {z : St} {j : Nat} {v : Int64} : FrW z (sl z 93 j v) := ⟨rfl, fun k hk => ⟨rfl, by funext i; simp [sl_2, hk]⟩⟩
theorem FrW.si {z : St} {j : Nat} {v : Int32} : FrW z (si z 93 j v) := ⟨rfl, fun k hk => ⟨by funext i; simp [si_1, hk], rfl⟩⟩
theorem FrW.d {z z' : St} (h : FrW z z') : FrD z z' := ⟨fun k _ => by rw [h.1], fun k hk => h.2 k (by omega), fun j _ => by rw [(h.2 87 (by omega)).1], fun j _ => by rw [(h.2 87 (by omega)).2]⟩
section
variable {F n : Nat} {sh : Nat → Nat × Nat} {z z' : St} {pk : Nat → Nat} {kt : Nat} {H : Hp} {m : Nat} {sl0 : Int32} {fr : Nat → Fm} {cs cl : Nat → Nat → Nat} {nf g lim : Nat}
theorem CM.w93 (h : CM sh n z pk kt H m sl0 fr cs cl nf g lim) (f : FrW z z') : CM sh n z' pk kt H m sl0 fr cs cl nf g lim := by
  have kk := h.2.2.2.2.1.2.2.1
  exact h.mov f.1 (fun j _ _ => by rw [(f.2 87 (by omega)).1]) (by rw [(f.2 87 (by omega)).2]) (f.2 kt (by omega)).1 (h.2.1.mv (fun k a b => f.2 k (by omega))) (h.2.2.1.of (by rw [(f.2 87 (by omega)).1]) (fun k a b => (f.2 k (by omega)).1) (by rw [f.1]))
theorem lay93 (hL : Lay sh n z) : 93 < n ∧ (sh 93).1 = 10 := ⟨by have := hL.1; omega, by rw [hL.2.1 93 (by omega)]; rfl⟩
theorem rk_24 (A B : Nat) : rk (nI 24) A B = some (A + B) := by unfold rk; rw [if_pos (by decide)]
theorem rk_25 (A B : Nat) : rk (nI 25) A B = if B ≤ A then some (A - B) else none := by unfold rk; rw [if_neg (by decide), if_pos (by decide)]
theorem rk_26 (A B : Nat) : rk (nI 26) A B = some (A * B) := by unfold rk; rw [if_neg (by decide), if_neg (by decide), if_pos (by decide)]
theorem rk_27 (A B : Nat) : rk (nI 27) A B = if B = 0 then none else some (A / B) := by unfold rk; rw [if_neg (by decide), if_neg (by decide), if_neg (by decide), if_pos (show nI 27 = 27 by decide)]
theorem rk_28 (A B : Nat) : rk (nI 28) A B = if B = 0 then none else some (A % B) := by unfold rk; rw [if_neg (by decide), if_neg (by decide), if_neg (by decide), if_neg (show ¬ nI 28 = 27 by decide)]
section
variable {F n : Nat} {sh : Nat → Nat × Nat} {z : St}
theorem cmb_24 (hL : Lay sh n z) (x y : Int64) : fn_X4_combine F sh n z 87 (nI 24) x y = cal (fn_X10_add F sh n z 93 x y) (fun z _ => some (z, ())) := by
  unfold fn_X4_combine
  rw [if_pos (by decide), (b_mach hL).1, grd_true, hL.2.2 87 3 93 rfl, lnk_s, b_wide hL, grd_true]
theorem cmb_25 (hL : Lay sh n z) (x y : Int64) : fn_X4_combine F sh n z 87 (nI 25) x y = cal (fn_X10_subtract F sh n z 93 x y) (fun z _ => some (z, ())) := by
  unfold fn_X4_combine
  rw [if_neg (by decide), if_pos (by decide), (b_mach hL).1, grd_true, hL.2.2 87 3 93 rfl, lnk_s, b_wide hL, grd_true]
theorem cmb_26 (hL : Lay sh n z) (x y : Int64) : fn_X4_combine F sh n z 87 (nI 26) x y = cal (fn_X10_multiply F sh n z 93 x y) (fun z _ => some (z, ())) := by
  unfold fn_X4_combine
  rw [if_neg (by decide), if_neg (by decide), if_pos (by decide), (b_mach hL).1, grd_true, hL.2.2 87 3 93 rfl, lnk_s, b_wide hL, grd_true]
theorem cmb_27 (hL : Lay sh n z) (x y : Int64) : fn_X4_combine F sh n z 87 (nI 27) x y = cal (fn_X10_divide F sh n z 93 x y 0) (fun z _ => some (z, ())) := by
  unfold fn_X4_combine
  rw [if_neg (by decide), if_neg (by decide), if_neg (by decide), if_pos (by decide), (b_mach hL).1, grd_true, hL.2.2 87 3 93 rfl, lnk_s, if_neg (by decide), b_wide hL, grd_true]
theorem cmb_28 (hL : Lay sh n z) (x y : Int64) : fn_X4_combine F sh n z 87 (nI 28) x y = cal (fn_X10_divide F sh n z 93 x y 1) (fun z _ => some (z, ())) := by
  have e : nI 28 = 28 := by decide
  unfold fn_X4_combine
  rw [if_neg (by decide), if_neg (by decide), if_neg (by decide), if_neg (by decide), if_pos e, (b_mach hL).1, grd_true, hL.2.2 87 3 93 rfl, lnk_s, if_pos e, b_wide hL, grd_true]
def CbR (z z' : St) (R : Option Nat) : Prop := FrW z z' ∧ ((z'.1 93 2 = 0 ∧ ∃ X, R = some X ∧ X < 2 ^ 128 ∧ V2 (z'.2.1 93 0) (z'.2.1 93 1) = X) ∨ (z'.1 93 2 = 1 ∧ ∀ X, R = some X → ¬ X < 2 ^ 128))
theorem wz_fr (h l : Int64) (b : Int32) : FrW z (wz z 93 h l b) := (FrW.si.trans FrW.sl).trans FrW.sl
theorem wz_v (h l : Int64) (b : Int32) : (wz z 93 h l b).2.1 93 0 = h ∧ (wz z 93 h l b).2.1 93 1 = l ∧ (wz z 93 h l b).1 93 2 = b := by simp [wz, sl_1, sl_2, si_1]
theorem sd_fr (b : Int32) (G : Nat → Int64) : FrW z (srl (si z 93 2 b) 93 G) := ⟨rfl, fun k hk => ⟨by funext i; simp [srl, si_1, hk], by funext i; simp [srl, si_2, hk]⟩⟩
theorem sd_v (b : Int32) (G : Nat → Int64) : (srl (si z 93 2 b) 93 G).2.1 93 = G ∧ (srl (si z 93 2 b) 93 G).1 93 2 = b := ⟨srl_s, by rw [srl_1]; simp [si_1]⟩
theorem cb_24 (hL : Lay sh n z) (bh bl : Int64) : ∃ z', fn_X4_combine F sh n z 87 (nI 24) bh bl = some (z', ()) ∧ CbR z z' (rk (nI 24) (V2 (z.2.1 93 0) (z.2.1 93 1)) (V2 bh bl)) := by
  obtain ⟨w0, w1⟩ := lay93 hL
  obtain ⟨h, l, p1, p2⟩ := addX_t (F := F) (z := z) w0 w1 bh bl
  rw [cmb_24 hL, p1, cal_s, rk_24]
  refine ⟨_, rfl, wz_fr _ _ _, ?_⟩
  obtain ⟨a1, a2, a3⟩ := wz_v (z := z) h l (if V2 (z.2.1 93 0) (z.2.1 93 1) + V2 bh bl < 2 ^ 128 then 0 else 1)
  rw [a1, a2, a3]
  generalize V2 (z.2.1 93 0) (z.2.1 93 1) = A at *
  generalize V2 bh bl = B at *
  by_cases c : A + B < 2 ^ 128
  · left
    rw [if_pos c]
    exact ⟨rfl, _, rfl, c, by rw [p2, Nat.mod_eq_of_lt c]⟩
  · right
    rw [if_neg c]
    exact ⟨rfl, fun X hX => by rw [← Option.some.inj hX]; exact c⟩
theorem cb_25 (hL : Lay sh n z) (bh bl : Int64) : ∃ z', fn_X4_combine F sh n z 87 (nI 25) bh bl = some (z', ()) ∧ CbR z z' (rk (nI 25) (V2 (z.2.1 93 0) (z.2.1 93 1)) (V2 bh bl)) := by
  obtain ⟨w0, w1⟩ := lay93 hL
  obtain ⟨h, l, p1, p2⟩ := subX_t (F := F) (z := z) w0 w1 bh bl
  rw [cmb_25 hL, p1, cal_s, rk_25]
  refine ⟨_, rfl, wz_fr _ _ _, ?_⟩
  obtain ⟨a1, a2, a3⟩ := wz_v (z := z) h l (if V2 bh bl ≤ V2 (z.2.1 93 0) (z.2.1 93 1) then 0 else 1)
  rw [a1, a2, a3]
  have hA := V2_lt (z.2.1 93 0) (z.2.1 93 1)
  have hB := V2_lt bh bl
  generalize V2 (z.2.1 93 0) (z.2.1 93 1) = A at *
  generalize V2 bh bl = B at *
  by_cases c : B ≤ A
  · left
    rw [if_pos c, if_pos c]
    refine ⟨rfl, _, rfl, Nat.lt_of_le_of_lt (Nat.sub_le _ _) hA, ?_⟩
    rw [p2, show 2 ^ 128 - B + A = (A - B) + 2 ^ 128 by omega, Nat.add_mod_right, Nat.mod_eq_of_lt (Nat.lt_of_le_of_lt (Nat.sub_le _ _) hA)]
  · right
    rw [if_neg c, if_neg c]
    exact ⟨rfl, fun X hX => absurd hX (by simp)⟩
theorem cb_26 (hL : Lay sh n z) (bh bl : Int64) : ∃ z', fn_X4_combine F sh n z 87 (nI 26) bh bl = some (z', ()) ∧ CbR z z' (rk (nI 26) (V2 (z.2.1 93 0) (z.2.1 93 1)) (V2 bh bl)) := by
  obtain ⟨w0, w1⟩ := lay93 hL
  obtain ⟨h, l, b, p1, p2⟩ := multX_t (F := F) (z := z) w0 w1 bh bl
  rw [cmb_26 hL, p1, cal_s, rk_26]
  refine ⟨_, rfl, wz_fr _ _ _, ?_⟩
  obtain ⟨a1, a2, a3⟩ := wz_v (z := z) h l b
  rw [a1, a2, a3]
  generalize V2 (z.2.1 93 0) (z.2.1 93 1) = A at *
  generalize V2 bh bl = B at *
  rcases p2 with ⟨c1, c2, c3⟩ | ⟨c1, c2⟩
  · exact Or.inl ⟨c1, _, rfl, c2, c3⟩
  · exact Or.inr ⟨c1, fun X hX => by rw [← Option.some.inj hX]; exact c2⟩
theorem cb_27 (hF : 300 ≤ F) (hL : Lay sh n z) (bh bl : Int64) : ∃ z', fn_X4_combine F sh n z 87 (nI 27) bh bl = some (z', ()) ∧ CbR z z' (rk (nI 27) (V2 (z.2.1 93 0) (z.2.1 93 1)) (V2 bh bl)) := by
  obtain ⟨w0, w1⟩ := lay93 hL
  obtain ⟨G, p1, p2⟩ := divX_t (F := F) (z := z) w0 w1 (by omega) bh bl 0
  rw [cmb_27 hL, p1, cal_s, rk_27]
  refine ⟨_, rfl, sd_fr _ _, ?_⟩
  obtain ⟨a1, a2⟩ := sd_v (z := z) (if V2 bh bl = 0 then 1 else 0) G
  rw [a1, a2]
  have hA := V2_lt (z.2.1 93 0) (z.2.1 93 1)
  generalize V2 (z.2.1 93 0) (z.2.1 93 1) = A at *
  generalize V2 bh bl = B at *
  by_cases c : B = 0
  · right
    rw [if_pos c, if_pos c]
    exact ⟨rfl, fun X hX => absurd hX (by simp)⟩
  · left
    rw [if_neg c, if_neg c]
    exact ⟨rfl, _, rfl, Nat.lt_of_le_of_lt (Nat.div_le_self _ _) hA, by rw [p2 c, if_pos rfl]⟩
theorem cb_28 (hF : 300 ≤ F) (hL : Lay sh n z) (bh bl : Int64) : ∃ z', fn_X4_combine F sh n z 87 (nI 28) bh bl = some (z', ()) ∧ CbR z z' (rk (nI 28) (V2 (z.2.1 93 0) (z.2.1 93 1)) (V2 bh bl)) := by
  obtain ⟨w0, w1⟩ := lay93 hL
  obtain ⟨G, p1, p2⟩ := divX_t (F := F) (z := z) w0 w1 (by omega) bh bl 1
  rw [cmb_28 hL, p1, cal_s, rk_28]
  refine ⟨_, rfl, sd_fr _ _, ?_⟩
  obtain ⟨a1, a2⟩ := sd_v (z := z) (if V2 bh bl = 0 then 1 else 0) G
  rw [a1, a2]
  have hA := V2_lt (z.2.1 93 0) (z.2.1 93 1)
  generalize V2 (z.2.1 93 0) (z.2.1 93 1) = A at *
  generalize V2 bh bl = B at *
  by_cases c : B = 0
  · right
    rw [if_pos c, if_pos c]
    exact ⟨rfl, fun X hX => absurd hX (by simp)⟩
  · left
    rw [if_neg c, if_neg c]
    exact ⟨rfl, _, rfl, Nat.lt_of_le_of_lt (Nat.mod_le _ _) hA, by rw [p2 c, if_neg one0]⟩
/-- 24 .. 28 in the row of two words -/
theorem combine_t (hF : 300 ≤ F) (hL : Lay sh n z) {o : Nat} (ho : 24 ≤ o) (ho2 : o < 29) (bh bl : Int64) : ∃ z', fn_X4_combine F sh n z 87 (nI o) bh bl = some (z', ()) ∧ CbR z z' (rk (nI o) (V2 (z.2.1 93 0) (z.2.1 93 1)) (V2 bh bl)) := by
  have : o = 24 ∨ o = 25 ∨ o = 26 ∨ o = 27 ∨ o = 28 := by omega
  rcases this with e | e | e | e | e <;> subst e
  · exact cb_24 hL bh bl
  · exact cb_25 hL bh bl
  · exact cb_26 hL bh bl
  · exact cb_27 hF hL bh bl
  · exact cb_28 hF hL bh bl
end
theorem CM.pushWide (h : CM sh n z pk kt H m sl0 fr cs cl nf g lim) (h64 : (fr (nf - 1)).2.2.1.1 < 64) (hm : m < 21600) {k : Nat} (hk : 1 ≤ k ∧ k ≤ 4) (s : Sl) : ((k = 1 ∨ (z.1 93 2 = 0 ∧ V2 (z.2.1 93 0) (z.2.1 93 1) < 2 ^ kb (nI k))) → ∃ z', fn_X4_pushWide F sh n z 87 (nI k) = some (z', ()) ∧ CM sh n z' pk kt (upH H m (k, z.2.1 93 0, z.2.1 93 1, [])) (m + 1) sl0 (setF fr (nf - 1) (pshV (fr (nf - 1)) s)) (up2 cs (nf - 1) (fr (nf - 1)).2.2.1.1 m) cl nf g lim ∧ FrC z z') ∧ (k ≠ 1 → ¬ (z.1 93 2 = 0 ∧ V2 (z.2.1 93 0) (z.2.1 93 1) < 2 ^ kb (nI k)) → ∃ z', fn_X4_pushWide F sh n z 87 (nI k) = some (z', ()) ∧ CE sh n z' 2 1 g sl0 ∧ FrC z z') := by
  obtain ⟨w0, w1⟩ := lay93 h.1
  have mk := (b_mach h.1).1
  have l3 := h.1.2.2 87 3 93 rfl
  have ok := b_wide h.1
  have ft := fits_t (F := F) (z := z) w0 w1 (nI k)
  have k0 : ¬ nI k < 1 := fun q => by have := (nIlt (x := 1) 1 rfl (by omega) (by omega)).mp q; omega
  have k4 : nI k ≤ 4 := (nIle (x := 4) 4 rfl (by omega) (by omega)).mpr hk.2
  constructor
  · intro hc
    obtain ⟨z1, p1, p2, p3⟩ := h.make (F := F) h64 hm (k := k) (x := z.2.1 93 0) (y := z.2.1 93 1) (by omega) (by unfold inn; omega) s
    refine ⟨z1, ?_, p2, p3⟩
    have e1 : fn_X4_pushWide_B47 F sh n 87 (nI k) z = some (z1, ()) := by
      unfold fn_X4_pushWide_B47
      rw [mk, grd_true, l3, lnk_s, ok, grd_true, lnk_s, ok, grd_true, p1, cal_s]
    unfold fn_X4_pushWide
    rw [if_neg k0, if_pos k4]
    by_cases c1 : nI k = 1
    · rw [if_pos c1]; exact e1
    · have : k ≠ 1 := fun q => c1 (by rw [q]; rfl)
      have hc2 := hc.resolve_left this
      rw [if_neg c1, mk, grd_true, l3, lnk_s, ok, grd_true, ft, cal_s, if_pos hc2, if_neg one0]
      exact e1
  · intro k1 hc
    obtain ⟨z1, p1, p2, p3⟩ := h.fin (F := F) 2 1
    refine ⟨z1, ?_, p2, p3⟩
    have c1 : ¬ nI k = 1 := fun q => k1 ((nI_ij (a := k) (b := 1) (by omega) (by omega)).mp q)
    unfold fn_X4_pushWide
    rw [if_neg k0, if_pos k4, if_neg c1, mk, grd_true, l3, lnk_s, ok, grd_true, ft, cal_s, if_neg hc, if_pos rfl, show (2 : Int32) = nI 2 from rfl, p1, cal_s]
def wS (z : St) (x y : Int64) : St := si (sl (sl z 93 0 x) 93 1 y) 93 2 0
theorem wS_fr {x y : Int64} : FrW z (wS z x y) := (FrW.sl.trans FrW.sl).trans FrW.si
theorem wS_v (z : St) (x y : Int64) : (wS z x y).2.1 93 0 = x ∧ (wS z x y).2.1 93 1 = y ∧ (wS z x y).1 93 2 = 0 := by simp [wS, sl_2, si_1, si_2]
theorem set93 (hL : Lay sh n z) (x y : Int64) : fn_X10_set F sh n z 93 x y = some (wS z x y, ()) := by
  unfold fn_X10_set
  rw [b_wide hL, grd_true, lt_t, lt_t, lt_t]
  rfl
/-- the kind of the lower one is read anew -/
def rkW (F : Nat) (sh : Nat → Nat × Nat) (n a : Nat) (z : St) : Option (St × Unit) := lnk (z.2.2 87 1) (fun k_32 => grd (okO sh n k_32 1) (lnk (z.2.2 k_32 0) (fun k_34 => grd (okA sh n k_34 100 (nI a)) (cal (fn_X4_pushWide F sh n z 87 (z.1 k_34 a)) (fun z_36 _ => some (z_36, ()))))))
theorem rkW_t (h : CM sh n z pk kt H m sl0 fr cs cl nf g lim) {a : Nat} (ha : (H a).1 ≠ 0) : rkW F sh n a z = cal (fn_X4_pushWide F sh n z 87 (nI (H a).1)) (fun z_36 _ => some (z_36, ())) := by
  have hp := b_heap h.1
  obtain ⟨a1, a2⟩ := h.2.1.i1 ha
  unfold rkW
  rw [h.1.2.2 87 1 88 rfl, lnk_s, hp.1, grd_true, hp.2.1, lnk_s, hp.2.2.2.2.2.1, a1, grd_true, h.2.1.kd ha]
theorem rkB_t (h : CM sh n z pk kt H m sl0 fr cs cl nf g lim) {a b : Nat} (ha : (H a).1 ≠ 0) (hb : (H b).1 ≠ 0) (p : Int32) : fn_X4_reckon_B185 F sh n 87 (nI b) (nI a) z p = cal (fn_X4_shift F sh n z 87 p (z.2.1 90 b) (nI (H a).1)) (fun z_48 _ => some (z_48, ())) := by
  have hp := b_heap h.1
  obtain ⟨a1, a2⟩ := h.2.1.i1 ha
  obtain ⟨b1, b2⟩ := h.2.1.i1 hb
  unfold fn_X4_reckon_B185
  rw [h.1.2.2 87 1 88 rfl, lnk_s, hp.1, grd_true, hp.2.2.1, lnk_s, hp.2.2.2.2.2.2.1, b1, grd_true, lnk_s, hp.1, grd_true, hp.2.1, lnk_s, hp.2.2.2.2.2.1, a1, grd_true, a2, b2, h.2.1.kd ha]
/-- what 24 .. 33 and 36 .. 41 begin with -/
theorem CM.reck0 (h : CM sh n z pk kt H m sl0 fr cs cl nf g lim) (h2 : 2 ≤ (fr (nf - 1)).2.2.1.1) {a b o : Nat} (ea : cs (nf - 1) ((fr (nf - 1)).2.2.1.1 - 2) = a) (eb : cs (nf - 1) ((fr (nf - 1)).2.2.1.1 - 1) = b) (ha : (H a).1 ≠ 0) (hb : (H b).1 ≠ 0) (ho : o < 42) (ho2 : o ≠ 34) (hab : ((o = 32 ∨ o = 33) ∧ (H b).1 = 2) ∨ (o ≠ 32 ∧ o ≠ 33 ∧ (H a).1 = (H b).1)) : ∃ z3, CM sh n z3 pk kt H m sl0 (setF fr (nf - 1) (setH (fr (nf - 1)) ((fr (nf - 1)).2.2.1.1 - 2))) cs cl nf g lim ∧ FrD z z3 ∧ (z3.1 93 2 = 0 ∧ z3.2.1 93 0 = z3.2.1 91 a ∧ z3.2.1 93 1 = z3.2.1 90 a) ∧ fn_X4_reckon F sh n z 87 (nI o) = (if nI o < 36 then if nI o < 32 then cal (fn_X4_combine F sh n z3 87 (nI o) (z3.2.1 91 b) (z3.2.1 90 b)) (fun z_37 _ => rkW F sh n a z_37) else if nI o = 32 then fn_X4_reckon_B185 F sh n 87 (nI b) (nI a) z3 1 else fn_X4_reckon_B185 F sh n 87 (nI b) (nI a) z3 0 else cal (fn_X4_compare F sh n z3 87 (nI o) (nI a) (nI b)) (fun z_50 _ => some (z_50, ()))) := by
  have e21 : (fr (nf - 1)).2.2.1.1 - 1 - 1 = (fr (nf - 1)).2.2.1.1 - 2 := by omega
  have n34 : ¬ nI o = 34 := fun q => ho2 ((nI_ij (a := o) (b := 34) (by omega) (by omega)).mp q)
  have l42 : nI o < 42 := (nIlt (x := 42) 42 rfl (by omega) (by omega)).mpr ho
  have okx : ∀ k w x, okI (nI x) 21600 = true → k = 89 ∧ w = 100 ∨ k = 90 ∧ w = 102 ∨ k = 91 ∧ w = 102 → okA sh n k w (nI x) = true := fun k w x hx hk => by
    rcases hk with ⟨e, f⟩ | ⟨e, f⟩ | ⟨e, f⟩ <;> subst e <;> subst f
    · rw [lay_a h.1 89 100 21600 (by decide) rfl]; exact hx
    · rw [lay_a h.1 90 102 21600 (by decide) rfl]; exact hx
    · rw [lay_a h.1 91 102 21600 (by decide) rfl]; exact hx
  have mk := (b_mach h.1).1
  have step : ∃ z2, CM sh n z2 pk kt H m sl0 (setF fr (nf - 1) (setH (fr (nf - 1)) ((fr (nf - 1)).2.2.1.1 - 2))) cs cl nf g lim ∧ FrC z z2 ∧ fn_X4_reckon F sh n z 87 (nI o) = fn_X4_reckon_B125 F sh n 87 (nI o) (nI b) z2 (nI a) := by
    rcases hab with ⟨o3, hb2⟩ | ⟨x32, x33, hk⟩
    · obtain ⟨z1, p1, p2, p3⟩ := h.popOf (F := F) (by omega) (k := 2) (x := 2) rfl (by rw [eb]; exact hb2) (by omega)
      obtain ⟨z2, q1, q2, q3⟩ := p2.pop (F := F) (by rw [setF_s, setH_T]; omega)
      rw [setF_s, setH_T, e21, setF_2] at q2
      rw [setF_s, setH_T, e21, ea] at q1
      rw [eb] at p1
      refine ⟨z2, q2, p3.trans q3, ?_⟩
      have B1 : fn_X4_reckon_B105 F sh n 87 (nI o) (nI b) z1 = fn_X4_reckon_B125 F sh n 87 (nI o) (nI b) z2 (nI a) := by
        unfold fn_X4_reckon_B105
        rw [mk, grd_true, q1, cal_s]
      have B2 : fn_X4_reckon_B40 F sh n 87 (nI o) z = fn_X4_reckon_B125 F sh n 87 (nI o) (nI b) z2 (nI a) := by
        unfold fn_X4_reckon_B40
        rw [mk, grd_true, p1, cal_s]
        unfold fn_X4_reckon_B52
        rw [if_pos l42]
        rcases o3 with e | e
        · rw [if_pos (by rw [e]; rfl)]; exact B1
        · rw [if_neg (by rw [e]; decide), if_pos (by rw [e]; rfl)]; exact B1
      unfold fn_X4_reckon
      rw [if_neg n34]
      rcases o3 with e | e
      · rw [if_pos (by rw [e]; rfl)]; exact B2
      · rw [if_neg (by rw [e]; decide), if_pos (by rw [e]; rfl)]; exact B2
    · obtain ⟨z1, p1, p2, p3⟩ := h.pop (F := F) (by omega)
      obtain ⟨z2, q1, q2, q3⟩ := p2.popOf (F := F) (by rw [setF_s, setH_T]; omega) (k := (H b).1) (x := nI (H b).1) rfl (by rw [setF_s, setH_T, e21, ea]; exact hk) hb
      rw [setF_s, setH_T, e21, setF_2] at q2
      rw [setF_s, setH_T, e21, ea] at q1
      rw [eb] at p1
      refine ⟨z2, q2, p3.trans q3, ?_⟩
      have n32 : ¬ nI o = 32 := fun q => x32 ((nI_ij (a := o) (b := 32) (by omega) (by omega)).mp q)
      have n33 : ¬ nI o = 33 := fun q => x33 ((nI_ij (a := o) (b := 33) (by omega) (by omega)).mp q)
      obtain ⟨b1, b2⟩ := p2.2.1.i1 hb
      have hp := b_heap p2.1
      unfold fn_X4_reckon
      rw [if_neg n34, if_neg n32, if_neg n33, mk, grd_true, p1, cal_s]
      unfold fn_X4_reckon_B52
      rw [if_pos l42, if_neg n32, if_neg n33, mk, grd_true, p2.1.2.2 87 1 88 rfl, lnk_s, hp.1, grd_true, hp.2.1, lnk_s, okx 89 100 b b1 (by omega), grd_true, b2, p2.2.1.kd hb, q1, cal_s]
  obtain ⟨z2, q2, q3, eR⟩ := step
  have fw : FrW z2 (wS z2 (z2.2.1 91 a) (z2.2.1 90 a)) := wS_fr
  obtain ⟨v1, v2, v3⟩ := wS_v z2 (z2.2.1 91 a) (z2.2.1 90 a)
  have s3 := set93 (F := F) q2.1 (z2.2.1 91 a) (z2.2.1 90 a)
  have r91 : (wS z2 (z2.2.1 91 a) (z2.2.1 90 a)).2.1 91 = z2.2.1 91 := (fw.2 91 (by omega)).2
  have r90 : (wS z2 (z2.2.1 91 a) (z2.2.1 90 a)).2.1 90 = z2.2.1 90 := (fw.2 90 (by omega)).2
  have C3 := q2.w93 fw
  refine ⟨_, C3, q3.d.trans fw.d, ⟨v3, by rw [v1, r91], by rw [v2, r90]⟩, ?_⟩
  generalize wS z2 (z2.2.1 91 a) (z2.2.1 90 a) = z3 at *
  obtain ⟨a1, a2⟩ := q2.2.1.i1 ha
  obtain ⟨b1, b2⟩ := q2.2.1.i1 hb
  have hp := b_heap q2.1
  have hp3 := b_heap C3.1
  have l1 := C3.1.2.2 87 1 88 rfl
  rw [eR]
  unfold fn_X4_reckon_B125
  rw [mk, grd_true, q2.1.2.2 87 3 93 rfl, lnk_s, q2.1.2.2 87 1 88 rfl, lnk_s, hp.1, grd_true, hp.2.2.2.1, lnk_s, okx 91 102 a a1 (by omega), grd_true, lnk_s, hp.1, grd_true, hp.2.2.1, lnk_s, okx 90 102 a a1 (by omega), grd_true, b_wide h.1, grd_true, a2, s3, cal_s]
  by_cases c : nI o < 36
  · rw [if_pos c, if_pos c]
    by_cases d : nI o < 32
    · rw [if_pos d, if_pos d, l1, lnk_s, hp.1, grd_true, hp3.2.2.2.1, lnk_s, okx 91 102 b b1 (by omega), grd_true, lnk_s, hp.1, grd_true, hp3.2.2.1, lnk_s, okx 90 102 b b1 (by omega), grd_true, b2]
      rfl
    · rw [if_neg d, if_neg d]
  · rw [if_neg c, if_neg c]
end
