/-! THE CLASS'S MACHINE: locals, steering, targets -/
section
variable {F n : Nat} {sh : Nat → Nat × Nat} {z z' : St} {pk : Nat → Nat} {kt : Nat} {H : Hp} {m : Nat} {sl0 : Int32} {fr : Nat → Fm} {cs cl : Nat → Nat → Nat} {nf g lim : Nat}
theorem CFs.loc (h : CFs z pk fr cs cl nf) {k : Nat} (hk : k < 40) (s : Option Sl) (v : Nat) (hz : s = none → v = 0) : CFs (si z 102 ((nf - 1) * 40 + k) (nI v)) pk (setF fr (nf - 1) (setLo (fr (nf - 1)) k s)) cs (up2 cl (nf - 1) k v) nf := by
  obtain ⟨b1, b2, b3, b4, b5, b6, b7, b8⟩ := h.2.2.2 (nf - 1) (by have := h.2.1; omega)
  refine h.set (by simp [si_1]) (fun j d j1 j2 hd => by simp [si_1, show j ≠ 102 by omega]) rfl (fun j hj => by simp [si_1]) (fun j hj => by simp [si_1, show j ≠ (nf - 1) * 40 + k by omega]) (fun d j hd => ⟨rfl, by simp [up2, hd]⟩) b1 rfl (by simp [si_1]; exact b3) (by simp [si_1]; exact b4) (by simp [si_1]; exact b5) (fun j hj => by simp [si_1]; exact b6 j hj) (fun j t hj => ?_) (fun j h4 hj => ?_)
  · simp only [setLo] at hj
    by_cases c : j = k
    · subst c; exact ⟨hk, by simp [si_1, up2]⟩
    · rw [if_neg c] at hj
      obtain ⟨w1, w2⟩ := b7 j t hj
      exact ⟨w1, by simp [si_1, up2, c]; exact w2⟩
  · simp only [setLo] at hj
    by_cases c : j = k
    · subst c
      rw [if_pos rfl] at hj
      rw [hz hj]
      exact .inl (by simp [si_1]; rfl)
    · rw [if_neg c] at hj
      exact (b8 j h4 hj).imp (fun w => by simp [si_1, c]; exact w) (fun w => w)
theorem CM.loc (h : CM sh n z pk kt H m sl0 fr cs cl nf g lim) {k : Nat} (hk : k < 40) (s : Option Sl) (v : Nat) (hz : s = none → v = 0) : CM sh n (si z 102 ((nf - 1) * 40 + k) (nI v)) pk kt H m sl0 (setF fr (nf - 1) (setLo (fr (nf - 1)) k s)) cs (up2 cl (nf - 1) k v) nf g lim ∧ FrC z (si z 102 ((nf - 1) * 40 + k) (nI v)) := by
  have kk := h.2.2.2.2.1.2.2.1
  exact ⟨h.mov rfl (fun j _ _ => by simp [si_1]) rfl (by funext j; simp [si_1, show kt ≠ 102 by omega]) (h.2.1.mv (fun j a b => ⟨by funext i; simp [si_1, show j ≠ 102 by omega], rfl⟩)) (h.2.2.1.loc hk s v hz), ⟨rfl, fun j _ _ c => ⟨by funext i; simp [si_1, show j ≠ 102 by omega], rfl⟩, fun j _ => by simp [si_1], fun _ _ => rfl⟩⟩
theorem CM.lv (h : CM sh n z pk kt H m sl0 fr cs cl nf g lim) {k : Nat} (hk : k < 40) : okA sh n 102 101 (nI ((nf - 1) * 40 + k)) = true ∧ (nI ((nf - 1) * 40 + k)).toNatClampNeg = (nf - 1) * 40 + k := by
  have := h.2.2.1.2.2.1
  have := h.2.2.1.2.1
  exact ⟨by rw [lay_a h.1 102 101 1280 (by decide) rfl]; exact okI_nI (by omega) (by omega), nI_clamp (by omega)⟩
/-- 12 -/
theorem CM.move (h : CM sh n z pk kt H m sl0 fr cs cl nf g lim) {k : Nat} {s s' : Sl} (hk : k < 40) (hs : (fr (nf - 1)).2.1 k = some s) (h0 : 0 < cl (nf - 1) k) (h1 : cl (nf - 1) k < 2 ^ 31) (h64 : (fr (nf - 1)).2.2.1.1 < 64) : ∃ z', fn_X4_useLocal F sh n z 87 12 (nI ((nf - 1) * 40 + k)) = some (z', ()) ∧ CM sh n z' pk kt H m sl0 (setF fr (nf - 1) (pshV (setLo (fr (nf - 1)) k none) s')) (up2 cs (nf - 1) (fr (nf - 1)).2.2.1.1 (cl (nf - 1) k)) (up2 cl (nf - 1) k 0) nf g lim ∧ FrC z z' := by
  obtain ⟨o1, o2⟩ := h.lv hk
  have rv := ((h.2.2.1.2.2.2 (nf - 1) (by have := h.2.2.1.2.1; omega)).2.2.2.2.2.2.1 k s hs).2
  obtain ⟨p1, p2⟩ := h.loc hk none 0 (fun _ => rfl)
  obtain ⟨z', q1, q2, q3⟩ := p1.push (F := F) (by rw [setF_s]; exact h64) s' (cl (nf - 1) k)
  rw [setF_s, setF_2] at q2
  refine ⟨z', ?_, q2, p2.trans q3⟩
  unfold fn_X4_useLocal
  rw [if_neg (by decide), (b_mach h.1).1, grd_true, h.1.2.2 87 10 102 rfl, lnk_s, o1, grd_true, o2, lt_t, rv, if_neg (nI_ne0 h0 h1)]
  unfold fn_X4_useLocal_B41
  rw [if_neg (by decide), if_pos rfl, h.1.2.2 87 10 102 rfl, lnk_s, o1, grd_true, o2, lt_t, show fn_X4_push F sh n (si z 102 ((nf - 1) * 40 + k) 0) 87 (nI (cl (nf - 1) k)) = some (z', ()) from q1, cal_s]
/-- 13 -/
theorem CM.store (h : CM sh n z pk kt H m sl0 fr cs cl nf g lim) {k : Nat} (hk : k < 40) (h1 : 1 ≤ (fr (nf - 1)).2.2.1.1) (s : Sl) : ∃ z', fn_X4_useLocal F sh n z 87 13 (nI ((nf - 1) * 40 + k)) = some (z', ()) ∧ CM sh n z' pk kt H m sl0 (setF fr (nf - 1) (setLo (setH (fr (nf - 1)) ((fr (nf - 1)).2.2.1.1 - 1)) k (some s))) cs (up2 cl (nf - 1) k (cs (nf - 1) ((fr (nf - 1)).2.2.1.1 - 1))) nf g lim ∧ FrC z z' := by
  obtain ⟨o1, o2⟩ := h.lv hk
  obtain ⟨z1, p1, p2, p3⟩ := h.pop (F := F) h1
  obtain ⟨q1, q2⟩ := p2.loc hk (some s) (cs (nf - 1) ((fr (nf - 1)).2.2.1.1 - 1)) (fun q => absurd q (by simp))
  rw [setF_s, setF_2] at q1
  refine ⟨_, ?_, q1, p3.trans q2⟩
  unfold fn_X4_useLocal
  rw [if_pos rfl, (b_mach h.1).1, grd_true, h.1.2.2 87 10 102 rfl, lnk_s, p1, cal_s, o1, grd_true, o2, lt_t]
/-- 14, 15 -/
theorem CM.borrow (h : CM sh n z pk kt H m sl0 fr cs cl nf g lim) {k o : Nat} {s s' : Sl} (ho : o = 14 ∨ o = 15) (hk : k < 40) (hs : (fr (nf - 1)).2.1 k = some s) (h0 : 0 < cl (nf - 1) k) (h1 : cl (nf - 1) k < 2 ^ 31) (h64 : (fr (nf - 1)).2.2.1.1 < 64) (hm : m < 21600) : ∃ z', fn_X4_useLocal F sh n z 87 (nI o) (nI ((nf - 1) * 40 + k)) = some (z', ()) ∧ CM sh n z' pk kt (upH H m (8, 0, lN (cl (nf - 1) k), [])) (m + 1) sl0 (setF fr (nf - 1) (pshV (fr (nf - 1)) s')) (up2 cs (nf - 1) (fr (nf - 1)).2.2.1.1 m) cl nf g lim ∧ FrC z z' := by
  obtain ⟨o1, o2⟩ := h.lv hk
  have rv := ((h.2.2.1.2.2.2 (nf - 1) (by have := h.2.2.1.2.1; omega)).2.2.2.2.2.2.1 k s hs).2
  obtain ⟨z', q1, q2, q3⟩ := h.make (F := F) h64 hm (k := 8) (x := 0) (y := lN (cl (nf - 1) k)) (by omega) (by unfold inn; omega) s'
  refine ⟨z', ?_, q2, q3⟩
  have n13 : ¬ nI o = 13 := fun q => by have := (nI_ij (a := o) (b := 13) (by omega) (by omega)).mp q; omega
  have n11 : ¬ nI o = 11 := fun q => by have := (nI_ij (a := o) (b := 11) (by omega) (by omega)).mp q; omega
  have n12 : ¬ nI o = 12 := fun q => by have := (nI_ij (a := o) (b := 12) (by omega) (by omega)).mp q; omega
  unfold fn_X4_useLocal
  rw [if_neg n13, (b_mach h.1).1, grd_true, h.1.2.2 87 10 102 rfl, lnk_s, o1, grd_true, o2, lt_t, rv, if_neg (nI_ne0 h0 h1)]
  unfold fn_X4_useLocal_B41
  rw [if_neg n11, if_neg n12, nI_l h1, show (8 : Int32) = nI 8 from rfl, q1, cal_s]
/-- what a reference points to -/
theorem CM.target (h : CM sh n z pk kt H m sl0 fr cs cl nf g lim) {r t : Nat} (hr : (H r).1 = 8) (ht : (H r).2.2.1 = lN t) (h0 : 0 < t) (h1 : t < 2 ^ 31) : fn_X4_target F sh n z 87 (nI r) = some (z, nI t) := by
  have al : (H r).1 ≠ 0 := by omega
  obtain ⟨b1, b2⟩ := h.2.1.i1 al
  have kd := h.2.1.kd al
  have lf := (h.2.1.leaf al (by unfold inn; omega)).2
  have o1 : okA sh n 89 100 (nI r) = true := by rw [lay_a h.1 89 100 21600 (by decide) rfl]; exact b1
  have o2 : okA sh n 90 102 (nI r) = true := by rw [lay_a h.1 90 102 21600 (by decide) rfl]; exact b1
  have hp := b_heap h.1
  have nz : ¬ lN t = 0 := fun q => by
    have : (lN t).toBitVec.toNat = (0 : Int64).toBitVec.toNat := by rw [q]
    rw [lN_nat (by omega)] at this
    have e0 : (0 : Int64).toBitVec.toNat = 0 := rfl
    omega
  unfold fn_X4_target
  rw [(b_mach h.1).1, grd_true, h.1.2.2 87 1 88 rfl, lnk_s, hp.1, grd_true, hp.2.1, lnk_s, o1, grd_true, b2, kd, hr, if_pos (by rfl), lnk_s, hp.1, grd_true, hp.2.2.1, lnk_s, o2, grd_true, lf, ht, if_neg nz, lnk_s, hp.1, grd_true, hp.2.2.1, lnk_s, o2, grd_true, lf, ht, lN_i t]
end
