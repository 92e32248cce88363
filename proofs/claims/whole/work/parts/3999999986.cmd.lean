/-! THE CLASS'S MACHINE: steering -/
section
variable {F n : Nat} {sh : Nat → Nat × Nat} {z z' : St} {pk : Nat → Nat} {kt : Nat} {H : Hp} {m : Nat} {sl0 : Int32} {fr : Nat → Fm} {cs cl : Nat → Nat → Nat} {nf g lim : Nat}
theorem CM.nx (h : CM sh n z pk kt H m sl0 fr cs cl nf g lim) (to : Nat) : CM sh n (si z 100 (nf - 1) (nI to)) pk kt H m sl0 (setF fr (nf - 1) (((fr (nf - 1)).1.1, (fr (nf - 1)).1.2.1, to), (fr (nf - 1)).2.1, (fr (nf - 1)).2.2.1, (fr (nf - 1)).2.2.2)) cs cl nf g lim ∧ FrC z (si z 100 (nf - 1) (nI to)) := by
  have kk := h.2.2.2.2.1.2.2.1
  obtain ⟨b1, b2, b3, b4, b5, b6, b7, b8⟩ := h.2.2.1.2.2.2 (nf - 1) (by have := h.2.2.1.2.1; omega)
  refine ⟨h.mov rfl (fun j _ _ => by simp [si_1]) rfl (by funext j; simp [si_1, show kt ≠ 100 by omega]) (h.2.1.mv (fun j a b => ⟨by funext i; simp [si_1, show j ≠ 100 by omega], rfl⟩)) (h.2.2.1.set (by simp [si_1]) (fun k d k1 k2 hd => by simp [si_1, hd]; intro e; rw [e]) rfl (fun j hj => by simp [si_1]) (fun j hj => by simp [si_1]) (fun d k hd => ⟨rfl, rfl⟩) b1 rfl (by simp [si_1]; exact b3) (by simp [si_1]) (by simp [si_1]; exact b5) (fun k hk => by simp [si_1]; exact b6 k hk) (fun k s hk => ?_) (fun k h4 hk => (b8 k h4 hk).imp (fun w => by simp [si_1]; exact w) (fun w => w))), ⟨rfl, fun j _ _ c => ⟨by funext i; simp [si_1, show j ≠ 100 by omega], rfl⟩, fun j _ => by simp [si_1], fun _ _ => rfl⟩⟩
  obtain ⟨w1, w2⟩ := b7 k s hk
  exact ⟨w1, by simp [si_1]; exact w2⟩
theorem CM.t0 (h : CM sh n z pk kt H m sl0 fr cs cl nf g lim) : z.1 87 12 = nI (nf - 1) ∧ okA sh n 100 101 (nI (nf - 1)) = true ∧ (nI (nf - 1)).toNatClampNeg = nf - 1 := by
  have := h.2.2.1.2.1
  have := h.2.2.1.2.2.1
  exact ⟨h.2.2.1.1, by rw [lay_a h.1 100 101 32 (by decide) rfl]; exact okI_nI (by omega) (by omega), nI_clamp (by omega)⟩
/-- 0 -/
theorem CM.drop (h : CM sh n z pk kt H m sl0 fr cs cl nf g lim) (h1 : 1 ≤ (fr (nf - 1)).2.2.1.1) {to : Int32} : ∃ z', fn_X4_steer F sh n z 87 0 to = some (z', ()) ∧ CM sh n z' pk kt H m sl0 (setF fr (nf - 1) (setH (fr (nf - 1)) ((fr (nf - 1)).2.2.1.1 - 1))) cs cl nf g lim ∧ FrC z z' := by
  obtain ⟨z1, p1, p2, p3⟩ := h.pop (F := F) h1
  refine ⟨z1, ?_, p2, p3⟩
  unfold fn_X4_steer
  rw [if_pos rfl, (b_mach h.1).1, grd_true, p1, cal_s]
/-- 2 -/
theorem CM.go (h : CM sh n z pk kt H m sl0 fr cs cl nf g lim) (to : Nat) : fn_X4_steer F sh n z 87 2 (nI to) = some (si z 100 (nf - 1) (nI to), ()) := by
  obtain ⟨t1, t2, t3⟩ := h.t0
  unfold fn_X4_steer
  rw [if_neg (by decide), if_neg (by decide), if_neg (by decide), if_pos rfl, (b_mach h.1).1, grd_true, h.1.2.2 87 8 100 rfl, lnk_s, t1, t2, grd_true, t3, lt_t]
/-- 45 -/
theorem CM.abort (h : CM sh n z pk kt H m sl0 fr cs cl nf g lim) (h1 : 1 ≤ (fr (nf - 1)).2.2.1.1) {v : Nat} (ev : cs (nf - 1) ((fr (nf - 1)).2.2.1.1 - 1) = v) (hv : (H v).1 = 3) {to : Int32} : ∃ z', fn_X4_steer F sh n z 87 45 to = some (z', ()) ∧ CE sh n z' 1 (H v).2.2.1 g sl0 ∧ FrC z z' := by
  obtain ⟨z1, p1, p2, p3⟩ := h.popOf (F := F) h1 (k := 3) (x := 3) rfl (by rw [ev]; exact hv) (by omega)
  rw [ev] at p1
  have al : (H v).1 ≠ 0 := by omega
  obtain ⟨b1, b2⟩ := p2.2.1.i1 al
  have lf := (p2.2.1.leaf al (by unfold inn; omega)).2
  obtain ⟨z2, q1, q2, q3⟩ := p2.fin (F := F) 1 (H v).2.2.1
  refine ⟨z2, ?_, q2, p3.trans q3⟩
  have o2 : okA sh n 90 102 (nI v) = true := by rw [lay_a h.1 90 102 21600 (by decide) rfl]; exact b1
  unfold fn_X4_steer
  rw [if_neg (by decide), if_neg (by decide), if_pos rfl, (b_mach h.1).1, grd_true, h.1.2.2 87 1 88 rfl, lnk_s, (b_heap h.1).1, grd_true, (b_heap h.1).2.2.1, lnk_s, p1, cal_s, o2, grd_true, b2, lf, show (1 : Int32) = nI 1 from rfl, q1, cal_s]
/-- 3, 4 -/
theorem CM.br (h : CM sh n z pk kt H m sl0 fr cs cl nf g lim) (h1 : 1 ≤ (fr (nf - 1)).2.2.1.1) {v o : Nat} (ho : o = 3 ∨ o = 4) (ev : cs (nf - 1) ((fr (nf - 1)).2.2.1.1 - 1) = v) (hv : (H v).1 = 1) (to : Nat) : ∃ z1, CM sh n z1 pk kt H m sl0 (setF fr (nf - 1) (setH (fr (nf - 1)) ((fr (nf - 1)).2.2.1.1 - 1))) cs cl nf g lim ∧ FrC z z1 ∧ fn_X4_steer F sh n z 87 (nI o) (nI to) = if (decide ((H v).2.2.1 = 1) = decide (o = 3)) then some (si z1 100 (nf - 1) (nI to), ()) else some (z1, ()) := by
  obtain ⟨z1, p1, p2, p3⟩ := h.popOf (F := F) h1 (k := 1) (x := 1) rfl (by rw [ev]; exact hv) (by omega)
  rw [ev] at p1
  have al : (H v).1 ≠ 0 := by omega
  obtain ⟨b1, b2⟩ := p2.2.1.i1 al
  have lf := (p2.2.1.leaf al (by unfold inn; omega)).2
  obtain ⟨t1, t2, t3⟩ := p2.t0
  refine ⟨z1, p2, p3, ?_⟩
  have o2 : okA sh n 90 102 (nI v) = true := by rw [lay_a h.1 90 102 21600 (by decide) rfl]; exact b1
  have e1 : fn_X4_steer F sh n z 87 (nI o) (nI to) = fn_X4_steer_B79 F sh n (nI o) 87 (nI to) z1 (bI (decide ((H v).2.2.1 = 1))) := by
    have n0 : ¬ nI o = 0 := nI_ne0 (by omega) (by omega)
    have n1 : ¬ nI o = 1 := fun q => by have := (nI_ij (a := o) (b := 1) (by omega) (by omega)).mp q; omega
    have n45 : ¬ nI o = 45 := fun q => by have := (nI_ij (a := o) (b := 45) (by omega) (by omega)).mp q; omega
    have n2 : ¬ nI o = 2 := fun q => by have := (nI_ij (a := o) (b := 2) (by omega) (by omega)).mp q; omega
    unfold fn_X4_steer
    rw [if_neg n0, if_neg n1, if_neg n45, if_neg n2, (b_mach h.1).1, grd_true, h.1.2.2 87 1 88 rfl, lnk_s, (b_heap h.1).1, grd_true, (b_heap h.1).2.2.1, lnk_s, p1, cal_s, o2, grd_true, b2, lf]
    by_cases c : (H v).2.2.1 = 1
    · rw [if_pos c]; simp [c, bI]
    · rw [if_neg c]; simp [c, bI]
  have e2 : fn_X4_steer_B79 F sh n (nI o) 87 (nI to) z1 (bI (decide ((H v).2.2.1 = 1))) = fn_X4_steer_B89 F sh n (bI (decide ((H v).2.2.1 = 1))) 87 (nI to) z1 (bI (decide (o = 3))) := by
    unfold fn_X4_steer_B79
    rcases ho with e | e <;> subst e
    · rw [if_pos (by rfl)]; rfl
    · rw [if_neg (by decide)]; rfl
  rw [e1, e2]
  unfold fn_X4_steer_B89
  by_cases c : decide ((H v).2.2.1 = 1) = decide (o = 3)
  · rw [if_pos c, if_pos (bI_eq.mpr c), p2.1.2.2 87 8 100 rfl, lnk_s, t1, t2, grd_true, t3, lt_t]
  · rw [if_neg c, if_neg (fun q => c (bI_eq.mp q))]
end
