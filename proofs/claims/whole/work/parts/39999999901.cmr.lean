/-! THE CLASS'S MACHINE: the hash (59) -/
def FrH (z z' : St) : Prop := z'.2.2 = z.2.2 ∧ ∀ k, ¬ (94 ≤ k ∧ k ≤ 97) → z'.1 k = z.1 k ∧ z'.2.1 k = z.2.1 k
theorem FrH.rfl' {z : St} : FrH z z := ⟨rfl, fun _ _ => ⟨rfl, rfl⟩⟩
theorem FrH.trans {z z' z'' : St} (h : FrH z z') (g : FrH z' z'') : FrH z z'' := ⟨g.1.trans h.1, fun k a => ⟨(g.2 k a).1.trans (h.2 k a).1, (g.2 k a).2.trans (h.2 k a).2⟩⟩
theorem FrH.d {z z' : St} (h : FrH z z') : FrD z z' := ⟨fun k _ => by rw [h.1], fun k hk => h.2 k (by omega), fun j _ => by rw [(h.2 87 (by omega)).1], fun j _ => by rw [(h.2 87 (by omega)).2]⟩
theorem FrH.dg {z z' : St} (h : frD z z' 94 95 96) : FrH z z' := ⟨h.2.2, fun k hk => ⟨h.1 k (by omega) (by omega) (by omega), h.2.1 k (by omega)⟩⟩
theorem FrH.si {z : St} {j : Nat} {v : Int32} : FrH z (si z 97 j v) := ⟨rfl, fun k hk => ⟨by funext i; simp [si_1, show k ≠ 97 by omega], rfl⟩⟩
section
variable {F n : Nat} {sh : Nat → Nat × Nat} {z z' : St} {pk : Nat → Nat} {kt : Nat} {H : Hp} {m : Nat} {sl0 : Int32} {fr : Nat → Fm} {cs cl : Nat → Nat → Nat} {nf g lim : Nat}
theorem dgX94 (hL : Lay sh n z) : DgX sh n z.2.2 94 95 96 := ⟨by have := hL.1; omega, by rw [hL.2.1 94 (by omega)]; rfl, by have := hL.1; omega, by rw [hL.2.1 95 (by omega)]; rfl, by have := hL.1; omega, by rw [hL.2.1 96 (by omega)]; rfl, hL.2.2 94 0 95 rfl, hL.2.2 94 1 96 rfl, by decide, by decide, by decide⟩
theorem CM.d94 (h : CM sh n z pk kt H m sl0 fr cs cl nf g lim) (f : FrH z z') : CM sh n z' pk kt H m sl0 fr cs cl nf g lim := by
  have kk := h.2.2.2.2.1.2.2.1
  exact h.mov f.1 (fun j _ _ => by rw [(f.2 87 (by omega)).1]) (by rw [(f.2 87 (by omega)).2]) (f.2 kt (by omega)).1 (h.2.1.mv (fun k a b => f.2 k (by omega))) (h.2.2.1.of (by rw [(f.2 87 (by omega)).1]) (fun k a b => (f.2 k (by omega)).1) (by rw [f.1]))
theorem CM.hs148 {W : Nat → Int32} {w : Nat → Int64} (hw : ∀ j, j < 8 → w j = ux (W j)) (hm : m + 33 ≤ 21600) (hcl : ∀ i, (H i).1 ≠ 0 → ∀ c, c ∈ (H i).2.2.2 → c < m) (h64 : (fr (nf - 1)).2.2.1.1 < 64) (s : Sl) : ∀ r p f z0, p + r = 32 → r < f → CM sh n z0 pk kt (dgC H m w p) (m + 1 + p) sl0 fr cs cl nf g lim → (∀ j, j < 8 → z0.1 95 j = W j) → ∃ z', fn_X4_hash_L176 F sh n 87 (nI m) f z0 (nI p) = some (z', ()) ∧ CM sh n z' pk kt (dgC H m w 32) (m + 33) sl0 (setF fr (nf - 1) (pshV (fr (nf - 1)) s)) (up2 cs (nf - 1) (fr (nf - 1)).2.2.1.1 m) cl nf g lim ∧ FrC z0 z' := by
  intro r
  induction r with
  | zero =>
    intro p f z0 ep hf h hW
    obtain ⟨f', rfl⟩ : ∃ q, f = q + 1 := ⟨f - 1, by omega⟩
    have : p = 32 := by omega
    subst this
    obtain ⟨z1, q1, q2, q3⟩ := h.push (F := F) h64 s m
    refine ⟨z1, ?_, q2, q3⟩
    unfold fn_X4_hash_L176
    rw [if_pos (by decide), q1, cal_s]
  | succ r ih =>
    intro p f z0 ep hf h hW
    obtain ⟨f', rfl⟩ : ∃ q, f = q + 1 := ⟨f - 1, by omega⟩
    have e8 := hb_sh p (by omega)
    have pt := part_t (F := F) (dgX94 h.1) (i := p / 8) (by omega)
    rw [hW _ (by omega), hW _ (by omega), part_four] at pt
    have by_ := dg_byte (W := W) (w := w) (k := p) (by omega) hw rfl rfl
    have mk := make_t (F := F) (k := 2) (x := 0) (y := (dgB w p).toInt64) h.1 h.2.1.1 h.2.1.2.1 (by omega) (by omega)
    have H1 := mk_H (nd := (2, 0, (dgB w p).toInt64, [])) h.2.1 (by omega) (k := 2) (x := 0) (y := (dgB w p).toInt64) (by omega) rfl (fun q => absurd q (by unfold inn; omega)) (fun _ => ⟨rfl, rfl, rfl⟩)
    obtain ⟨C1, f1⟩ := h.heap mk_fr H1
    have hvm : (upH (dgC H m w p) (m + 1 + p) (2, 0, (dgB w p).toInt64, [])) m = (7, 0, 0, ((List.range p).map (fun k => m + 1 + k)).reverse) := by rw [upH_n (by omega)]; exact dgC_m
    have a1 : ((upH (dgC H m w p) (m + 1 + p) (2, 0, (dgB w p).toInt64, [])) m).1 ≠ 0 := by rw [hvm]; simp
    have a2 : inn ((upH (dgC H m w p) (m + 1 + p) (2, 0, (dgB w p).toInt64, [])) m).1 := by rw [hvm]; exact Or.inr rfl
    have a3 : ((upH (dgC H m w p) (m + 1 + p) (2, 0, (dgB w p).toInt64, [])) (m + 1 + p)).1 ≠ 0 := by rw [upH_s]; simp
    have a4 : rootH (upH (dgC H m w p) (m + 1 + p) (2, 0, (dgB w p).toInt64, [])) (m + 1 + p) := by
      intro i hi
      by_cases c : i = m + 1 + p
      · subst c; rw [upH_s]; simp
      · rw [upH_n c] at hi ⊢
        unfold dgC at hi ⊢
        by_cases d : i = m
        · rw [if_pos d]; simp
        · rw [if_neg d] at hi ⊢
          by_cases e : m < i ∧ i ≤ m + p
          · rw [if_pos e]; simp
          · rw [if_neg e] at hi ⊢
            intro q
            have := hcl i hi _ q
            omega
    have a5 : ((upH (dgC H m w p) (m + 1 + p) (2, 0, (dgB w p).toInt64, [])) m).2.2.2.length < 256 := by rw [hvm]; simp; omega
    have pp := prepend_t (F := F) C1.1 C1.2.1 a1 a2 a3
    have pH := pp_H C1.2.1 a1 a2 a3 a4 a5
    rw [dgC_s] at pH
    obtain ⟨C2, f2⟩ := C1.heap pp_fr pH
    rw [show m + 1 + p + 1 = m + 1 + (p + 1) by omega] at C2
    have k95 : ∀ zz, FrC z0 zz → zz.1 95 = z0.1 95 := fun zz ff => (ff.2.1 95 (by omega) (by omega) (by omega)).1
    obtain ⟨z3, q1, q2, q3⟩ := ih (p + 1) f' _ (by omega) (by omega) C2 (fun j hj => by rw [k95 _ (f1.trans f2)]; exact hW j hj)
    refine ⟨z3, ?_, q2, (f1.trans f2).trans q3⟩
    have hp := b_heap h.1
    unfold fn_X4_hash_L176
    rw [if_neg (fun q => by have := (nIge (x := 32) 32 rfl (by omega) (by omega)).mp q; omega), h.1.2.2 87 4 94 rfl, lnk_s, (b_dig h.1).1, grd_true, e8.2.1, pt, cal_s, ← e8.2.1, by_, lt_t, h.1.2.2 87 1 88 rfl, lnk_s, lnk_s, hp.1, grd_true, show (2 : Int32) = nI 2 from rfl, mk, cal_s, grd_true, pp, cal_s, nI_1]
    exact q1
theorem nar8c (x : Int32) : vp_nar .byte (x.toInt8.toInt32) &&& 255 = x &&& 255 := by
  have : vp_nar .byte (x.toInt8.toInt32) = x.toInt8.toInt32.toInt8.toInt32 := rfl
  rw [this, i8_and, i8_and]
/-- the bytes into the row, the last one first -/
theorem CM.hs50 {v : Nat} {b : Nat → Int32} {l : Nat} (hl : (H v).2.2.2.length = l) (hl2 : l ≤ 256) (hv : (H v).1 = 7) (hk : ∀ c, c ∈ (H v).2.2.2 → (H c).1 = 2) (hb : ∀ i (hi : i < (H v).2.2.2.length), ((H (H v).2.2.2[i]).2.2.1).toInt32 &&& 255 = b (l - 1 - i) &&& 255) : ∀ r j f z0, j + r = l → r < f → CM sh n z0 pk kt H m sl0 fr cs cl nf g lim → (∀ i, l - j ≤ i → i < l → z0.1 97 i &&& 255 = b i &&& 255) → ∃ z' f', fn_X4_hash_L78 F sh n 87 (nI l) f z0 (nI (hd0 ((H v).2.2.2.drop j))) (nI r - 1) = fn_X4_hash_L78 F sh n 87 (nI l) (f' + 1) z' 0 (-1) ∧ CM sh n z' pk kt H m sl0 fr cs cl nf g lim ∧ (∀ i, i < l → z'.1 97 i &&& 255 = b i &&& 255) ∧ FrH z0 z' := by
  intro r
  induction r with
  | zero =>
    intro j f z0 ej hf h hr
    obtain ⟨f', rfl⟩ : ∃ q, f = q + 1 := ⟨f - 1, by omega⟩
    refine ⟨z0, f', ?_, h, fun i hi => hr i (by omega) hi, FrH.rfl'⟩
    rw [List.drop_eq_nil_of_le (by omega)]
    rfl
  | succ r ih =>
    intro j f z0 ej hf h hr
    obtain ⟨f', rfl⟩ : ∃ q, f = q + 1 := ⟨f - 1, by omega⟩
    have hj : j < (H v).2.2.2.length := by omega
    have hi7 := h.2.1.inr (i := v) (by omega) (by unfold inn; omega)
    have hd := drop_c hj
    have ch := chn_drop hi7.2.2.1 j
    rw [hd, hd0_c] at ch
    have chc := ch.2.2.2
    have c92 := chn_hd chc
    have kc := hk _ (List.getElem_mem hj)
    have ic := h.2.1.i1 (i := (H v).2.2.2[j]) (by omega)
    have lc := (h.2.1.leaf (i := (H v).2.2.2[j]) (by omega) (by unfold inn; omega)).2
    have f1 : FrH z0 (si z0 97 r (vp_nar .byte ((((H (H v).2.2.2[j]).2.2.1).toInt32).toInt8.toInt32))) := FrH.si
    have C1 := h.d94 f1
    obtain ⟨z', f'', q1, q2, q3, q4⟩ := ih (j + 1) f' _ (by omega) (by omega) C1 (fun i i1 i2 => by
      by_cases c : i = r
      · subst c
        simp only [si_1, if_true]
        rw [nar8c, hb j hj, show l - 1 - j = i by omega]
      · simp [si_1, c]
        exact hr i (by omega) i2)
    refine ⟨z', f'', ?_, q2, q3, f1.trans q4⟩
    have e1 : nI (r + 1) - 1 = nI r := nI_pred r
    have o90 : okA sh n 90 102 (nI (H v).2.2.2[j]) = true := by rw [lay_a h.1 90 102 21600 (by decide) rfl]; exact ic.1
    have o92 : okA sh n 92 101 (nI (H v).2.2.2[j]) = true := by rw [lay_a h.1 92 101 21600 (by decide) rfl]; exact ic.1
    have o97 : okA sh n 97 100 (nI r) = true := by rw [lay_a h.1 97 100 256 (by decide) rfl]; exact okI_nI (by omega) (by omega)
    have hp := b_heap h.1
    have k92 : (si z0 97 r (vp_nar .byte ((((H (H v).2.2.2[j]).2.2.1).toInt32).toInt8.toInt32))).1 92 (H v).2.2.2[j] = nI (hd0 ((H v).2.2.2.drop (j + 1))) := by
      rw [(f1.2 92 (by omega)).1]; exact c92
    rw [hd, hd0_c, e1]
    conv => lhs; unfold fn_X4_hash_L78
    rw [if_neg (nI_pos (by omega)), h.1.2.2 87 5 97 rfl, lnk_s, h.1.2.2 87 1 88 rfl, lnk_s, hp.1, grd_true, hp.2.2.1, lnk_s, o90, grd_true, o97, grd_true, ic.2, lc, nI_clamp (by omega), lt_t, C1.1.2.2 87 1 88 rfl, lnk_s, hp.1, grd_true, (b_heap C1.1).2.2.2.2.1, lnk_s, o92, grd_true, k92, lt_t, show nI r + -1 = nI r - 1 by rw [Int32.sub_eq_add_neg]]
    exact q1
theorem CM.hs99 (hF : 300 ≤ F) {b : Nat → Int32} {l : Nat} (hl2 : l ≤ 256) : ∀ r p f z0, p + r = l → r < f → CM sh n z0 pk kt H m sl0 fr cs cl nf g lim → DP sh n z0 94 95 96 b p → (∀ i, i < l → z0.1 97 i &&& 255 = b i &&& 255) → ∃ z' f', fn_X4_hash_L127 F sh n (nI l) 87 f z0 (nI p) = fn_X4_hash_L127 F sh n (nI l) 87 (f' + 1) z' (nI l) ∧ CM sh n z' pk kt H m sl0 fr cs cl nf g lim ∧ DP sh n z' 94 95 96 b l ∧ FrH z0 z' := by
  intro r
  induction r with
  | zero =>
    intro p f z0 ep hf h hD hr
    obtain ⟨f', rfl⟩ : ∃ q, f = q + 1 := ⟨f - 1, by omega⟩
    have : p = l := by omega
    subst this
    exact ⟨z0, f', rfl, h, hD, FrH.rfl'⟩
  | succ r ih =>
    intro p f z0 ep hf h hD hr
    obtain ⟨f', rfl⟩ : ∃ q, f = q + 1 := ⟨f - 1, by omega⟩
    obtain ⟨z1, p1, p2, p3⟩ := put_p (F := F) hD (by omega) (hr p (by omega))
    have f1 := FrH.dg p3
    have C1 := h.d94 f1
    obtain ⟨z', f'', q1, q2, q3, q4⟩ := ih (p + 1) f' z1 (by omega) (by omega) C1 p2 (fun i hi => by rw [p3.1 97 (by omega) (by omega) (by omega)]; exact hr i hi)
    refine ⟨z', f'', ?_, q2, q3, f1.trans q4⟩
    have o97 : okA sh n 97 100 (nI p) = true := by rw [lay_a h.1 97 100 256 (by decide) rfl]; exact okI_nI (by omega) (by omega)
    conv => lhs; unfold fn_X4_hash_L127
    rw [if_neg (fun q => by have := (nI_leI (by omega) (by omega)).mp q; omega), h.1.2.2 87 4 94 rfl, lnk_s, h.1.2.2 87 5 97 rfl, lnk_s, o97, grd_true, (b_dig h.1).1, grd_true, nI_clamp (by omega), p1, cal_s, nI_1]
    exact q1
/-- 59 -/
theorem CM.hash (hF : 300 ≤ F) (h : CM sh n z pk kt H m sl0 fr cs cl nf g lim) (h1 : 1 ≤ (fr (nf - 1)).2.2.1.1) {v : Nat} (ev : cs (nf - 1) ((fr (nf - 1)).2.2.1.1 - 1) = v) (hv : (H v).1 = 7) {b : Nat → Int32} {l : Nat} (hl : (H v).2.2.2.length = l) (hk : ∀ c, c ∈ (H v).2.2.2 → (H c).1 = 2) (hb : ∀ i (hi : i < (H v).2.2.2.length), ((H (H v).2.2.2[i]).2.2.1).toInt32 &&& 255 = b (l - 1 - i) &&& 255) (hm : m + 33 ≤ 21600) (s : Sl) : (lim < g + (32 + l) → ∃ z', fn_X4_hash F sh n z 87 = some (z', ()) ∧ CE sh n z' 2 5 lim sl0 ∧ FrD z z') ∧ (g + (32 + l) ≤ lim → ∀ w : Nat → Int64, (∀ j, j < 8 → w j = ux (HS (pb b l) ((l + 9 + pz l) / 64) j)) → ∃ z', fn_X4_hash F sh n z 87 = some (z', ()) ∧ CM sh n z' pk kt (dgC H m w 32) (m + 33) sl0 (setF fr (nf - 1) (pshV (setH (fr (nf - 1)) ((fr (nf - 1)).2.2.1.1 - 1)) s)) (up2 cs (nf - 1) ((fr (nf - 1)).2.2.1.1 - 1) m) cl nf (g + (32 + l)) lim ∧ FrD z z') := by
  obtain ⟨b1, _⟩ := h.2.2.1.2.2.2 (nf - 1) (by have := h.2.2.1.2.1; omega)
  obtain ⟨z1, p1, p2, p3⟩ := h.pop (F := F) h1
  rw [ev] at p1
  have al : (H v).1 ≠ 0 := by omega
  have iv := p2.2.1.i1 al
  have inr := p2.2.1.inr al (by unfold inn; omega)
  rw [hl] at inr
  have hl2 := inr.2.2.2
  have o91 : okA sh n 91 102 (nI v) = true := by rw [lay_a h.1 91 102 21600 (by decide) rfl]; exact iv.1
  have o89 : okA sh n 89 100 (nI v) = true := by rw [lay_a h.1 89 100 21600 (by decide) rfl]; exact iv.1
  have o90 : okA sh n 90 102 (nI v) = true := by rw [lay_a h.1 90 102 21600 (by decide) rfl]; exact iv.1
  have hp := b_heap p2.1
  have n256 : ¬ (256 : Int64) < lN l := fun q => by have := (lNgt (x := 256) 256 rfl (by omega) (by omega)).mp q; omega
  constructor
  · intro hg
    obtain ⟨z2, q1, q2, q3⟩ := p2.payE (F := F) hg (by omega)
    refine ⟨z2, ?_, q2, (p3.trans q3).d⟩
    unfold fn_X4_hash
    rw [(b_mach h.1).1, grd_true, p1, cal_s, p2.1.2.2 87 1 88 rfl, lnk_s, hp.1, grd_true, hp.2.1, lnk_s, o89, grd_true, iv.2, p2.2.1.kd al, hv, if_pos (by rfl), lnk_s, hp.1, grd_true, hp.2.2.2.1, lnk_s, o91, grd_true, inr.1, if_neg n256, lt_t, lN_i, lt_t, show (32 : Int32) = nI 32 from rfl, nI_add, q1, cal_s, if_pos rfl]
  · intro hg w hw
    obtain ⟨z2, q1, q2, q3⟩ := p2.pay (F := F) hg
    have inr2 := q2.2.1.inr al (by unfold inn; omega)
    obtain ⟨z3, f3, r1, r2, r3, r4⟩ := CM.hs50 (F := F) (v := v) (b := b) hl hl2 hv hk hb l 0 F z2 (by omega) (by omega) q2 (fun i i1 i2 => absurd i2 (by omega))
    rw [List.drop_zero] at r1
    obtain ⟨z4, s1, s2, s3⟩ := start_t (F := F) (dgX94 r2.1) b
    have C4 := r2.d94 (FrH.dg s3)
    obtain ⟨z5, f5, t1, t2, t3, t4⟩ := CM.hs99 (F := F) hF (b := b) hl2 l 0 F z4 (by omega) (by omega) C4 s2 (fun i hi => by rw [s3.1 97 (by omega) (by omega) (by omega)]; exact r3 i hi)
    obtain ⟨z6, u1, u2, u3, u4⟩ := fin_t (F := F) t3 (by omega) (by omega)
    have C6 := t2.d94 (FrH.dg u4)
    have mk := make_t (F := F) (k := 7) (x := 0) (y := 0) C6.1 C6.2.1.1 C6.2.1.2.1 (by omega) (by omega)
    have H1 := mk_H (nd := (7, 0, 0, [])) C6.2.1 (by omega) (k := 7) (x := 0) (y := 0) (by omega) rfl (fun _ => ⟨rfl, rfl, rfl⟩) (fun q => absurd (Or.inr rfl) q)
    obtain ⟨C7, f7⟩ := C6.heap mk_fr H1
    rw [← dgC_0 (w := w)] at C7
    have k95 : (mkS z6 m (nI 7) 0 0).1 95 = z6.1 95 := (f7.2.1 95 (by omega) (by omega) (by omega)).1
    obtain ⟨z8, y1, y2, y3⟩ := CM.hs148 (F := F) (W := fun j => HS (pb b l) ((l + 9 + pz l) / 64) j) hw hm (fun i hi c hc => (h.2.1.lt (h.2.1.cl hi c hc)).2.1) (by rw [setF_s, setH_T]; omega) s 32 0 F _ (by omega) (by omega) C7 (fun j hj => by rw [k95]; exact u3 j hj)
    rw [setF_s, setF_2, setH_T] at y2
    refine ⟨z8, ?_, y2, (((((p3.trans q3).d.trans r4.d).trans (FrH.dg s3).d).trans t4.d).trans (FrH.dg u4).d).trans (f7.trans y3).d⟩
    have hp2 := b_heap q2.1
    unfold fn_X4_hash
    rw [(b_mach h.1).1, grd_true, p1, cal_s, p2.1.2.2 87 1 88 rfl, lnk_s, hp.1, grd_true, hp.2.1, lnk_s, o89, grd_true, iv.2, p2.2.1.kd al, hv, if_pos (by rfl), lnk_s, hp.1, grd_true, hp.2.2.2.1, lnk_s, o91, grd_true, inr.1, if_neg n256, lt_t, lN_i, lt_t, show (32 : Int32) = nI 32 from rfl, nI_add, q1, cal_s, if_neg one0, q2.1.2.2 87 1 88 rfl, lnk_s, hp.1, grd_true, hp2.2.2.1, lnk_s, o90, grd_true, inr2.2.1, lN_i, lt_t, lt_t, r1]
    unfold fn_X4_hash_L78
    rw [if_pos (by decide), r2.1.2.2 87 4 94 rfl, lnk_s, (b_dig h.1).1, grd_true, s1, cal_s, show (0 : Int32) = nI 0 from rfl, t1]
    unfold fn_X4_hash_L127
    rw [if_pos ((nI_leI (by omega) (by omega)).mpr (Nat.le_refl _)), t2.1.2.2 87 4 94 rfl, lnk_s, (b_dig h.1).1, grd_true, u1, cal_s, C6.1.2.2 87 1 88 rfl, lnk_s, hp.1, grd_true, show (7 : Int32) = nI 7 from rfl, mk, cal_s]
    exact y1
end
