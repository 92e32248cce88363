/-! BOTH MACHINES SIDE BY SIDE: calls and returns -/
section
variable {F n : Nat} {sh : Nat → Nat × Nat} {z z' : St} {pk : Nat → Nat} {kt : Nat} {H : Hp} {m : Nat} {sl0 : Int32} {fr : Nat → Fm} {cs cl : Nat → Nat → Nat} {nf g lim : Nat}
theorem CM.entE1 (h : CM sh n z pk kt H m sl0 fr cs cl nf g lim) {u md : Nat} {f : Int32} (hp : fn_X7_findProgram F sh n z 3 (nI md) = some (z, some (pk u))) (hn : nf = 32) : ∃ z', fn_X4_enter F sh n z 87 (nI md) f = some (z', ()) ∧ CE sh n z' 2 4 g sl0 ∧ FrC z z' := by
  obtain ⟨z2, p1, p2, p3⟩ := h.fin (F := F) 2 4
  refine ⟨z2, ?_, p2, p3⟩
  unfold fn_X4_enter
  rw [(b_mach h.1).1, grd_true, h.1.2.2 87 0 3 rfl, lnk_s, (b_state h.1).1, grd_true, hp, cal_s, nul_s, h.2.2.1.1, if_pos (by subst hn; decide), show (2 : Int32) = nI 2 from rfl, p1, cal_s]
theorem CM.entE2 {H0 : Hp} {m0 : Nat} (h : CM sh n z pk kt H0 m0 sl0 fr cs cl nf g lim) {u md : Nat} {f : Int32} {z1 : St} {r : Int32} (h1 : CM sh n z1 pk kt H m sl0 fr cs cl nf g lim) (hp : fn_X7_findProgram F sh n z 3 (nI md) = some (z, some (pk u))) (hn : nf < 32) (ha : fn_X2_ask F sh n z 104 2 0 (nI md) 0 = some (z1, r)) (hr : ¬ (0 : Int32) ≤ r) : ∃ z', fn_X4_enter F sh n z 87 (nI md) f = some (z', ()) ∧ CE sh n z' 2 4 g sl0 ∧ FrC z1 z' := by
  obtain ⟨z2, p1, p2, p3⟩ := h1.fin (F := F) 2 4
  refine ⟨z2, ?_, p2, p3⟩
  have e1 : nI (nf - 1) + 1 = nI nf := by rw [nI_1, Nat.sub_add_cancel h.2.2.1.2.1]
  unfold fn_X4_enter
  rw [(b_mach h.1).1, grd_true, h.1.2.2 87 0 3 rfl, lnk_s, (b_state h.1).1, grd_true, hp, cal_s, nul_s, h.2.2.1.1, e1, if_neg (fun q => by have := (nIge (x := 32) 32 rfl (by omega) (by omega)).mp q; omega), h.1.2.2 87 2 104 rfl, lnk_s, (b_jour h.1).1, grd_true, ha, cal_s, if_neg hr, show (2 : Int32) = nI 2 from rfl, p1, cal_s]
theorem CM.entG {H0 : Hp} {m0 : Nat} (h : CM sh n z pk kt H0 m0 sl0 fr cs cl nf g lim) {u md : Nat} {f : Int32} {z1 : St} {r : Int32} (h1 : CM sh n z1 pk kt H m sl0 fr cs cl nf g lim) (hp : fn_X7_findProgram F sh n z 3 (nI md) = some (z, some (pk u))) (hn : nf < 32) (ha : fn_X2_ask F sh n z 104 2 0 (nI md) 0 = some (z1, r)) (hr : (0 : Int32) ≤ r) (hg : lim < g + 5) : ∃ z', fn_X4_enter F sh n z 87 (nI md) f = some (z', ()) ∧ CE sh n z' 2 5 lim sl0 ∧ FrC z1 z' := by
  obtain ⟨z2, p1, p2, p3⟩ := h1.payE (F := F) (c := 5) hg (by omega)
  refine ⟨z2, ?_, p2, p3⟩
  have e1 : nI (nf - 1) + 1 = nI nf := by rw [nI_1, Nat.sub_add_cancel h.2.2.1.2.1]
  unfold fn_X4_enter
  rw [(b_mach h.1).1, grd_true, h.1.2.2 87 0 3 rfl, lnk_s, (b_state h.1).1, grd_true, hp, cal_s, nul_s, h.2.2.1.1, e1, if_neg (fun q => by have := (nIge (x := 32) 32 rfl (by omega) (by omega)).mp q; omega), h.1.2.2 87 2 104 rfl, lnk_s, (b_jour h.1).1, grd_true, ha, cal_s, if_pos hr, show (5 : Int32) = nI 5 from rfl, p1, cal_s, if_pos rfl]
theorem CM.entN (hF : 300 ≤ F) {H0 : Hp} {m0 : Nat} (h : CM sh n z pk kt H0 m0 sl0 fr cs cl nf g lim) {u md f : Nat} {z1 : St} {r : Int32} (h1 : CM sh n z1 pk kt H m sl0 fr cs cl nf g lim) (hp : fn_X7_findProgram F sh n z 3 (nI md) = some (z, some (pk u))) (hn : nf < 32) (ha : fn_X2_ask F sh n z 104 2 0 (nI md) 0 = some (z1, r)) (hr : (0 : Int32) ≤ r) (hg : g + 5 ≤ lim) {c nx : Nat} (ho : okO sh n (pk u) 5 = true) (htk : ∀ z', FrC z1 z' → fn_X5_takes F sh n z' (pk u) (nI f) = some (z', nI c)) (hc : c ≤ (fr (nf - 1)).2.2.1.1) (hc8 : c ≤ 40) (hnx : (fr (nf - 1)).1.2.2 = nx) (gh : Nat → Option Sl) (ps : Nat → Sl) : ∃ z', fn_X4_enter F sh n z 87 (nI md) (nI f) = some (z', ()) ∧ CM sh n z' pk kt H m sl0 (enF fr nf u f c nx gh ps) cs (enC cs cl nf (fr (nf - 1)).2.2.1.1 c) (nf + 1) (g + 5) lim ∧ FrD z1 z' := by
  obtain ⟨z2, p1, p2, p3⟩ := h1.pay (F := F) (c := 5) hg
  obtain ⟨b1, b2, b3, b4, b5, b6, b7⟩ := p2.2.2.1.2.2.2 (nf - 1) (by have := h.2.2.1.2.1; omega)
  obtain ⟨w1, w2⟩ := p2.enterF hn (u := u) (f := f) hc hc8 hnx gh ps
  refine ⟨_, ?_, w1, p3.d.trans w2⟩
  obtain ⟨t1, t2, t3⟩ := p2.t0
  have f2 := h.2.2.1.2.1
  have L3 : Lay sh n (si z2 101 (nf - 1) (nI ((fr (nf - 1)).2.2.1.1 - c))) := p2.1.of rfl
  have e1 : nI (nf - 1) + 1 = nI nf := by rw [nI_1, Nat.sub_add_cancel h.2.2.1.2.1]
  have pf := pushFrame_t (F := F) hF L3 (d := nf) (p := pk u) hn (by simp [si_1]; rw [t1, e1]) ho (nI f)
  obtain ⟨r1, r2, r3, r4, r5, r6, r7, r8, r9, r10, r11, r12, r13, r14⟩ := pf_rows (si z2 101 (nf - 1) (nI ((fr (nf - 1)).2.2.1.1 - c))) nf (pk u) (nI f)
  have oi : okA sh n 101 101 (nI (nf - 1)) = true := by rw [lay_a h.1 101 101 32 (by decide) rfl]; exact okI_nI (by omega) (by omega)
  have nlt : ¬ nI (fr (nf - 1)).2.2.1.1 < nI c := by
    apply Int32.not_lt.mpr
    exact (nI_leI (by omega) (by omega)).mpr hc
  have ea : nI (nf - 1) * 64 + nI (fr (nf - 1)).2.2.1.1 - nI c = nI ((nf - 1) * 64 + ((fr (nf - 1)).2.2.1.1 - c)) := by
    rw [show (64 : Int32) = nI 64 from rfl, pk_mul, nI_add, pk_sub (by omega), Nat.add_sub_assoc hc]
  have es : nI (fr (nf - 1)).2.2.1.1 - nI c = nI ((fr (nf - 1)).2.2.1.1 - c) := pk_sub hc
  have em : nI nf * 40 = nI (nf * 40) := by rw [show (40 : Int32) = nI 40 from rfl, pk_mul]
  have tI : ∀ x : Nat, x < 2 ^ 31 → 0 ≤ (nI x).toInt := fun x hx => by rw [nI_toInt hx]; omega
  have oc : okC 2048 1280 (nI ((nf - 1) * 64 + ((fr (nf - 1)).2.2.1.1 - c))) (nI (nf * 40)) (nI c) = true := by
    unfold okC
    rw [nI_clamp (by omega), nI_clamp (by omega), nI_clamp (by omega)]
    simp only [Bool.and_eq_true, decide_eq_true_eq]
    refine ⟨⟨tI _ (by omega), tI _ (by omega), tI _ (by omega)⟩, by omega, by omega⟩
  have s103 : (sh 103).2 = 2048 := by rw [h.1.2.1 103 (by omega)]; rfl
  have s102 : (sh 102).2 = 1280 := by rw [h.1.2.1 102 (by omega)]; rfl
  have L4 := L3.of98 r14
  unfold fn_X4_enter
  rw [(b_mach h.1).1, grd_true, h.1.2.2 87 0 3 rfl, lnk_s, (b_state h.1).1, grd_true, hp, cal_s, nul_s, h.2.2.1.1, e1, if_neg (fun q => by have := (nIge (x := 32) 32 rfl (by omega) (by omega)).mp q; omega), h.1.2.2 87 2 104 rfl, lnk_s, (b_jour h.1).1, grd_true, ha, cal_s, if_pos hr, show (5 : Int32) = nI 5 from rfl, p1, cal_s, if_neg one0, ho, grd_true, htk z2 p3, cal_s, p2.1.2.2 87 9 101 rfl, lnk_s, t1, oi, grd_true, t3, b5, if_pos ((nI_leI (by omega) (by omega)).mpr hc)]
  unfold fn_X4_enter_B86
  rw [htk z2 p3, cal_s, p2.1.2.2 87 9 101 rfl, lnk_s, t1, oi, grd_true, t3, b5, if_neg nlt, lt_t, lnk_s, oi, grd_true, b5, ea, lt_t, lnk_s, oi, grd_true, grd_true, b5, es, lt_t, pf, cal_s, L4.2.2 87 11 103 rfl, lnk_s, L4.2.2 87 10 102 rfl, lnk_s, lay_o h.1 102 101 1280 (by decide) rfl, grd_true, lay_o h.1 103 101 2048 (by decide) rfl, grd_true, r1, em, s103, s102, oc, grd_true, nI_clamp (by omega), nI_clamp (by omega), nI_clamp (by omega), lt_t]
end
