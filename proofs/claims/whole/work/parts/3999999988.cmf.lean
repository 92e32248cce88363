/-! THE CLASS'S MACHINE: giving back -/
def rtF (x : Fm) (p : Nat) (rl : Nat → Sl) : Fm := ((x.1.1, x.1.2.1, x.1.2.2), x.2.1, (x.2.2.1.1 + p, fun k => if k < x.2.2.1.1 then x.2.2.1.2 k else rl (k - x.2.2.1.1)), fun _ => none)
def rtC (cs : Nat → Nat → Nat) (d h p : Nat) (w : Nat → Nat) : Nat → Nat → Nat := fun e k => if e = d ∧ h ≤ k ∧ k < h + p then w (k - h) else cs e k
section
variable {F n : Nat} {sh : Nat → Nat × Nat} {z z' : St} {pk : Nat → Nat} {kt : Nat} {H : Hp} {m : Nat} {sl0 : Int32} {fr : Nat → Fm} {cs cl : Nat → Nat → Nat} {nf g lim : Nat}
/-- what is left in locals may be dropped -/
def DpC (F : Nat) (sh : Nat → Nat × Nat) (n : Nat) (z : St) (p f lc tp : Nat) : Prop := fn_X5_localCount F sh n z p (nI f) = some (z, nI lc) ∧ lc ≤ 40 ∧ ∀ k, k < lc → ¬ z.1 102 (tp * 40 + k) = 0 → ∃ t a, fn_X5_localType F sh n z p (nI f) (nI k) = some (z, t) ∧ fn_X5_abilities F sh n z p t = some (z, a) ∧ ¬ (a &&& 2) = 0
def gbE (F : Nat) (sh : Nat → Nat × Nat) (n : Nat) (z : St) : Option (St × Unit) := if z.1 87 12 = 0 then lt_ (si z 87 15 0) (fun z_38 => some (z_38, ())) else lnk (z.2.2 87 9) (fun k_23 => grd (okA sh n k_23 101 (z.1 87 12)) (lt_ (z.1 k_23 (z.1 87 12).toNatClampNeg) (fun v_25 => lt_ (z.1 87 12 * 64) (fun v_26 => lt_ (si z 87 12 (z.1 87 12 - 1)) (fun z_28 => fn_X4_giveBack_L157 F sh n v_25 87 v_26 F z_28 0)))))
theorem gbK {p f lc tp : Nat} (hL : Lay sh n z) (t1 : z.1 87 12 = nI tp) (ht : tp < 32) (h : DpC F sh n z p f lc tp) : ∀ r k f', k + r = lc → r < f' → fn_X4_giveBack_L52 F sh n p (nI f) 87 f' z (nI k) = gbE F sh n z := by
  obtain ⟨d1, d2, d3⟩ := h
  intro r
  induction r with
  | zero =>
    intro k f' e hf
    obtain ⟨f2, rfl⟩ : ∃ q, f' = q + 1 := ⟨f' - 1, by omega⟩
    unfold fn_X4_giveBack_L52
    rw [d1, cal_s, if_pos ((nI_leI (by omega) (by omega)).mpr (by omega))]
    rfl
  | succ r ih =>
    intro k f' e hf
    obtain ⟨f2, rfl⟩ : ∃ q, f' = q + 1 := ⟨f' - 1, by omega⟩
    have i1 := ih (k + 1) f2 (by omega) (by omega)
    have em : nI tp * 40 + nI k = nI (tp * 40 + k) := by rw [show (40 : Int32) = nI 40 from rfl, pk_mul, nI_add]
    have oi : okA sh n 102 101 (nI (tp * 40 + k)) = true := by rw [lay_a hL 102 101 1280 (by decide) rfl]; exact okI_nI (by omega) (by omega)
    unfold fn_X4_giveBack_L52
    rw [d1, cal_s, if_neg (fun q => by have := (nI_leI (by omega) (by omega)).mp q; omega), hL.2.2 87 10 102 rfl, lnk_s, t1, em, oi, grd_true, nI_clamp (by omega)]
    by_cases q : z.1 102 (tp * 40 + k) = 0
    · rw [if_pos q]
      unfold fn_X4_giveBack_B106
      rw [nI_1]
      exact i1
    · obtain ⟨t, a, g1, g2, g3⟩ := d3 k (by omega) q
      rw [if_neg q, g1, cal_s, g2, cal_s, if_neg g3]
      unfold fn_X4_giveBack_B106
      rw [nI_1]
      exact i1
theorem gbB {p f lc tp : Nat} (hF : 300 ≤ F) (hL : Lay sh n z) (t1 : z.1 87 12 = nI tp) (ht : tp < 32) (h : DpC F sh n z p f lc tp) : fn_X4_giveBack_B50 F sh n p (nI f) 87 z = gbE F sh n z := by
  have l40 := h.2.1
  exact gbK hL t1 ht h lc 0 F (by omega) (by omega)
/-- 1, from the last frame -/
theorem CM.retE (hF : 300 ≤ F) (h : CM sh n z pk kt H m sl0 fr cs cl nf g lim) (h1 : nf = 1) {lc : Nat} (hd : DpC F sh n z (pk (fr (nf - 1)).1.1) (fr (nf - 1)).1.2.1 lc (nf - 1)) (ho : okO sh n (pk (fr (nf - 1)).1.1) 5 = true) (hg : fn_X5_gives F sh n z (pk (fr (nf - 1)).1.1) (nI (fr (nf - 1)).1.2.1) = some (z, nI (fr (nf - 1)).2.2.1.1)) : ∃ z', fn_X4_giveBack F sh n z 87 = some (z', ()) ∧ CE sh n z' 0 0 g sl0 ∧ HC z' H m sl0 ∧ CFs z' pk fr cs cl nf ∧ FrC z z' := by
  obtain ⟨t1, t2, t3⟩ := h.t0
  obtain ⟨hL, hH, hf, ⟨r1, r2, r3⟩, ⟨y1, _, y3, y4⟩, g1, gl, gl2⟩ := h
  obtain ⟨b1, b2, b3, b4, b5, b6, b7⟩ := hf.2.2.2 (nf - 1) (by omega)
  refine ⟨si z 87 15 0, ?_, ⟨hL.of rfl, by simp [si_1], by simp [si_1]; exact r2, r3, by simp [si_1]; exact g1, kt, lim, y1, by simp [si_1, show kt ≠ 87 by omega]; exact y4, gl, gl2, by simp [si_1]; exact hH.2.2.2.1⟩, hH.mv (fun k a b => ⟨by funext j; simp [si_1, show k ≠ 87 by omega], rfl⟩), hf.of (by simp [si_1]) (fun k a b => by funext j; simp [si_1, show k ≠ 87 by omega]) rfl, ⟨rfl, fun k k1 _ _ => ⟨by funext j; simp [si_1, k1], rfl⟩, fun j hj => by simp [si_1, show j ≠ 15 by omega], fun _ _ => rfl⟩⟩
  have ok : ∀ k w, 98 ≤ k → k ≤ 101 → shF k = (w, 32) → okA sh n k w (nI (nf - 1)) = true := fun k w k1 k2 e => by rw [lay_a hL k w 32 (by omega) e]; exact okI_nI (by omega) (by omega)
  unfold fn_X4_giveBack
  rw [(b_mach hL).1, grd_true, hL.2.2 87 6 98 rfl, lnk_s, t1, ok 98 104 (by omega) (by omega) rfl, grd_true, t3, b2, lnk_s, hL.2.2 87 7 99 rfl, lnk_s, ok 99 101 (by omega) (by omega) rfl, grd_true, b3, lt_t, hL.2.2 87 9 101 rfl, lnk_s, ok 101 101 (by omega) (by omega) rfl, grd_true, ho, grd_true, hg, cal_s, b5, if_pos rfl, gbB hF hL t1 (by omega) hd]
  unfold gbE
  rw [t1, if_pos (by rw [h1]; rfl), lt_t]
theorem gbL {c e : Nat} {w : Nat → Nat} {rl : Nat → Sl} (he : e + 1 < 32) (hc : c ≤ 64) (h64 : (fr e).2.2.1.1 + c ≤ 64) : ∀ r p f z0, p + r = c → r < f → CM sh n z0 pk kt H m sl0 (setF fr e (rtF (fr e) p rl)) (rtC cs e (fr e).2.2.1.1 p w) cl (e + 1) g lim → (∀ k, k < c → z0.1 103 ((e + 1) * 64 + k) = nI (w k)) → ∃ z', fn_X4_giveBack_L157 F sh n (nI c) 87 (nI ((e + 1) * 64)) f z0 (nI p) = some (z', ()) ∧ CM sh n z' pk kt H m sl0 (setF fr e (rtF (fr e) c rl)) (rtC cs e (fr e).2.2.1.1 c w) cl (e + 1) g lim ∧ FrC z0 z' := by
  intro r
  induction r with
  | zero =>
    intro p f z0 ee hf h _
    obtain ⟨f', rfl⟩ : ∃ q, f = q + 1 := ⟨f - 1, by omega⟩
    have ep : p = c := by omega
    subst ep
    refine ⟨z0, ?_, h, FrC.rfl'⟩
    unfold fn_X4_giveBack_L157
    rw [if_pos ((nI_leI (by omega) (by omega)).mpr (Nat.le_refl _))]
  | succ r ih =>
    intro p f z0 ee hf h hw
    obtain ⟨f', rfl⟩ : ∃ q, f = q + 1 := ⟨f - 1, by omega⟩
    have kk := h.2.2.2.2.1.2.2.1
    have hh : (rtF (fr e) p rl).2.2.1.1 = (fr e).2.2.1.1 + p := rfl
    have pu := cpush_t (F := F) h.1 h.2.2.1 (by rw [Nat.add_sub_cancel, setF_s, hh]; omega) (nI (w p))
    rw [Nat.add_sub_cancel, setF_s, hh] at pu
    obtain ⟨b1, b2, b3, b4, b5, b6, b7, b8⟩ := h.2.2.1.2.2.2 e (by omega)
    rw [setF_s] at b2 b3 b4 b5 b6 b7 b8
    have C1 : CFs (cpS z0 e ((fr e).2.2.1.1 + p) (nI (w p))) pk (setF (setF fr e (rtF (fr e) p rl)) (e + 1 - 1) (rtF (fr e) (p + 1) rl)) (rtC cs e (fr e).2.2.1.1 (p + 1) w) cl (e + 1) := by
      refine h.2.2.1.set (by simp [cpS, si_1]) (fun k d k1 k2 hd => by rw [Nat.add_sub_cancel] at hd; simp [cpS, si_1, show k ≠ 103 by omega, hd]; intro q; rw [q]) rfl (fun j hj => by simp [cpS, si_1, show j ≠ e * 64 + ((fr e).2.2.1.1 + p) by omega]) (fun j hj => by simp [cpS, si_1]) (fun d k hd => ⟨by rw [Nat.add_sub_cancel] at hd; simp [rtC, hd], rfl⟩) (by show (fr e).2.2.1.1 + (p + 1) ≤ 64; omega) (by rw [Nat.add_sub_cancel, setF_s]; rfl) (by rw [Nat.add_sub_cancel]; simp [cpS, si_1]; exact b3) (by rw [Nat.add_sub_cancel]; simp [cpS, si_1]; exact b4) (by rw [Nat.add_sub_cancel]; simp [cpS, si_1, rtF]; rw [Nat.add_assoc]) (fun k hk => ?_) (fun k s hk => ?_) (fun k h4 hk => ?_)
      · rw [Nat.add_sub_cancel]
        have hk' : k < (fr e).2.2.1.1 + (p + 1) := hk
        by_cases ck : k = (fr e).2.2.1.1 + p
        · subst ck
          have : rtC cs e (fr e).2.2.1.1 (p + 1) w e ((fr e).2.2.1.1 + p) = w p := by unfold rtC; rw [if_pos ⟨rfl, by omega, by omega⟩, Nat.add_sub_cancel_left]
          rw [this]; simp [cpS, si_1]
        · have old := b6 k (by show k < (fr e).2.2.1.1 + p; omega)
          have : rtC cs e (fr e).2.2.1.1 (p + 1) w e k = rtC cs e (fr e).2.2.1.1 p w e k := by
            unfold rtC
            by_cases q : (fr e).2.2.1.1 ≤ k
            · rw [if_pos ⟨rfl, q, by omega⟩, if_pos ⟨rfl, q, by omega⟩]
            · rw [if_neg (fun x => q x.2.1), if_neg (fun x => q x.2.1)]
          rw [this, ← old]
          simp [cpS, si_1, show e * 64 + k ≠ e * 64 + ((fr e).2.2.1.1 + p) by omega]
          intro q
          omega
      · rw [Nat.add_sub_cancel]
        obtain ⟨w1, w2⟩ := b7 k s hk
        exact ⟨w1, by simp [cpS, si_1]; exact w2⟩
      · rw [Nat.add_sub_cancel]
        exact (b8 k h4 hk).imp (fun w => by simp [cpS, si_1]; exact w) (fun w => w)
    rw [Nat.add_sub_cancel, setF_2] at C1
    have C2 : CM sh n (cpS z0 e ((fr e).2.2.1.1 + p) (nI (w p))) pk kt H m sl0 (setF fr e (rtF (fr e) (p + 1) rl)) (rtC cs e (fr e).2.2.1.1 (p + 1) w) cl (e + 1) g lim := h.mov rfl (fun j _ _ => by simp [cpS, si_1]) rfl (by funext j; simp [cpS, si_1, show kt ≠ 101 by omega, show kt ≠ 103 by omega]) (h.2.1.mv (fun k a b => ⟨by funext j; simp [cpS, si_1, show k ≠ 101 by omega, show k ≠ 103 by omega], rfl⟩)) C1
    have f1 : FrC z0 (cpS z0 e ((fr e).2.2.1.1 + p) (nI (w p))) := ⟨rfl, fun k _ _ c => ⟨by funext j; simp [cpS, si_1, show k ≠ 101 by omega, show k ≠ 103 by omega], rfl⟩, fun j _ => by simp [cpS, si_1], fun _ _ => rfl⟩
    obtain ⟨z', q1, q2, q3⟩ := ih (p + 1) f' _ (by omega) (by omega) C2 (fun k hk => by rw [← hw k hk]; simp [cpS, si_1, show (e + 1) * 64 + k ≠ e * 64 + ((fr e).2.2.1.1 + p) by omega])
    refine ⟨z', ?_, q2, f1.trans q3⟩
    have ei : nI ((e + 1) * 64) + nI p = nI ((e + 1) * 64 + p) := nI_add _ _
    have oi : okA sh n 103 101 (nI ((e + 1) * 64 + p)) = true := by rw [lay_a h.1 103 101 2048 (by decide) rfl]; exact okI_nI (by omega) (by omega)
    unfold fn_X4_giveBack_L157
    rw [if_neg (fun q => by have := (nI_leI (by omega) (by omega)).mp q; omega), h.1.2.2 87 11 103 rfl, lnk_s, ei, oi, grd_true, nI_clamp (by omega), hw p (by omega), pu, cal_s, nI_1]
    exact q1
end
