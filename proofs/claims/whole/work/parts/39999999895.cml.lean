/-! THE CLASS'S MACHINE: a call -/
theorem lk98 (j : Nat) : lkF 98 j = none := rfl
theorem Lay.of98 {sh : Nat → Nat × Nat} {n : Nat} {z z' : St} (h : Lay sh n z) (e : ∀ k, k ≠ 98 → z'.2.2 k = z.2.2 k) : Lay sh n z' := ⟨h.1, h.2.1, fun k j t q => by
  have : k ≠ 98 := fun c => by subst c; rw [lk98] at q; exact absurd q (by simp)
  rw [e k this]; exact h.2.2 k j t q⟩
theorem sc_1 (z : St) (k : Nat) (f : Nat → Int32) (a b c k' j' : Nat) : (sc z k f a b c).1 k' j' = if k' = k then (if b ≤ j' ∧ j' < b + c then f (a + (j' - b)) else z.1 k j') else z.1 k' j' := rfl
def enC (cs cl : Nat → Nat → Nat) (nf h c : Nat) : Nat → Nat → Nat := fun d k => if d = nf then (if k < c then cs (nf - 1) (h - c + k) else 0) else cl d k
def enF (fr : Nat → Fm) (nf u f c nx : Nat) (gh : Nat → Option Sl) (ps : Nat → Sl) : Nat → Fm := setF (setF fr (nf - 1) (((fr (nf - 1)).1.1, (fr (nf - 1)).1.2.1, nx), (fr (nf - 1)).2.1, ((fr (nf - 1)).2.2.1.1 - c, (fr (nf - 1)).2.2.1.2), gh)) nf ((u, f, 0), (fun k => if k < c then some (ps k) else none), (0, fun _ => (0, 0, 0, 0, false)), fun _ => none)
section
variable {F n : Nat} {sh : Nat → Nat × Nat} {z z' : St} {pk : Nat → Nat} {kt : Nat} {H : Hp} {m : Nat} {sl0 : Int32} {fr : Nat → Fm} {cs cl : Nat → Nat → Nat} {nf g lim : Nat}
theorem CM.enterF (h : CM sh n z pk kt H m sl0 fr cs cl nf g lim) (hn : nf < 32) {u f c nx : Nat} (hc : c ≤ (fr (nf - 1)).2.2.1.1) (hc8 : c ≤ 40) (hnx : (fr (nf - 1)).1.2.2 = nx) (gh : Nat → Option Sl) (ps : Nat → Sl) : CM sh n (sc (pfS (si z 101 (nf - 1) (nI ((fr (nf - 1)).2.2.1.1 - c))) nf (pk u) (nI f)) 102 ((pfS (si z 101 (nf - 1) (nI ((fr (nf - 1)).2.2.1.1 - c))) nf (pk u) (nI f)).1 103) ((nf - 1) * 64 + ((fr (nf - 1)).2.2.1.1 - c)) (nf * 40) c) pk kt H m sl0 (enF fr nf u f c nx gh ps) cs (enC cs cl nf (fr (nf - 1)).2.2.1.1 c) (nf + 1) g lim ∧ FrD z (sc (pfS (si z 101 (nf - 1) (nI ((fr (nf - 1)).2.2.1.1 - c))) nf (pk u) (nI f)) 102 ((pfS (si z 101 (nf - 1) (nI ((fr (nf - 1)).2.2.1.1 - c))) nf (pk u) (nI f)).1 103) ((nf - 1) * 64 + ((fr (nf - 1)).2.2.1.1 - c)) (nf * 40) c) := by
  obtain ⟨r1, r2, r3, r4, r5, r6, r7, r8, r9, r10, r11, r12, r13, r14⟩ := pf_rows (si z 101 (nf - 1) (nI ((fr (nf - 1)).2.2.1.1 - c))) nf (pk u) (nI f)
  generalize pfS (si z 101 (nf - 1) (nI ((fr (nf - 1)).2.2.1.1 - c))) nf (pk u) (nI f) = z4 at *
  obtain ⟨hL, hH, ⟨f1, f2, f3, f4⟩, ⟨q1, q2, q3⟩, ⟨t1, t2, t3, t4⟩, g1, g2, g3⟩ := h
  have row : ∀ k, k ≠ 87 → ¬ (99 ≤ k ∧ k ≤ 102) → (sc z4 102 (z4.1 103) ((nf - 1) * 64 + ((fr (nf - 1)).2.2.1.1 - c)) (nf * 40) c).1 k = z.1 k := fun k k1 k2 => by
    funext j
    rw [sc_1, if_neg (by omega), r10 k k1 k2]
    simp [si_1, show k ≠ 101 by omega]
  have row87 : ∀ j, j ≠ 12 → (sc z4 102 (z4.1 103) ((nf - 1) * 64 + ((fr (nf - 1)).2.2.1.1 - c)) (nf * 40) c).1 87 j = z.1 87 j := fun j hj => by
    rw [sc_1, if_neg (by omega), r2 j hj]
    simp [si_1]
  have rowL : (sc z4 102 (z4.1 103) ((nf - 1) * 64 + ((fr (nf - 1)).2.2.1.1 - c)) (nf * 40) c).2.1 = z.2.1 := r11
  have links : ∀ k, k ≠ 98 → (sc z4 102 (z4.1 103) ((nf - 1) * 64 + ((fr (nf - 1)).2.2.1.1 - c)) (nf * 40) c).2.2 k = z.2.2 k := fun k hk => r14 k hk
  have z103 : z4.1 103 = z.1 103 := by rw [r9]; funext j; simp [si_1]
  refine ⟨⟨hL.of98 links, hH.mv (fun k a b => ⟨row k (by omega) (by omega), by rw [rowL]⟩), ⟨?_, by omega, by omega, fun d hd => ?_⟩, ⟨by rw [row87 15 (by omega)]; exact q1, by rw [row87 16 (by omega)]; exact q2, by rw [rowL]; exact q3⟩, ⟨by rw [links 87 (by omega)]; exact t1, t2, t3, by rw [row kt (by omega) (by omega)]; exact t4⟩, by rw [row87 14 (by omega)]; exact g1, g2, g3⟩, ⟨links, fun k a => ⟨row k (by omega) (by omega), by rw [rowL]⟩, fun j hj => row87 j (by omega), fun j _ => by rw [rowL]⟩⟩
  · rw [sc_1, if_neg (by omega), r1, Nat.add_sub_cancel]
  · unfold CFd
    by_cases c0 : d = nf
    · subst c0
      have eF : enF fr d u f c nx gh ps d = ((u, f, 0), (fun k => if k < c then some (ps k) else none), (0, fun _ => (0, 0, 0, 0, false)), fun _ => none) := setF_s _ _ _
      rw [eF]
      refine ⟨by simp, r12, by rw [sc_1, if_neg (by omega)]; exact r3, by rw [sc_1, if_neg (by omega)]; exact r4, by rw [sc_1, if_neg (by omega)]; exact r5, fun k hk => absurd hk (by simp), fun k s hk => ?_, fun k h4 hk => .inl ?_⟩
      rotate_left
      · have hkc : ¬ k < c := fun q => by simp [q] at hk
        rw [sc_1, if_pos rfl, if_neg (by omega)]
        exact r8 k h4
      have hkc : k < c := by
        by_cases q : k < c
        · exact q
        · simp [q] at hk
      refine ⟨by omega, ?_⟩
      obtain ⟨b1, b2, b3, b4, b5, b6, b7⟩ := f4 (d - 1) (by omega)
      rw [sc_1, if_pos rfl, if_pos ⟨by omega, by omega⟩, z103, show (d - 1) * 64 + ((fr (d - 1)).2.2.1.1 - c) + (d * 40 + k - d * 40) = (d - 1) * 64 + ((fr (d - 1)).2.2.1.1 - c + k) by omega, b6 _ (by omega)]
      simp [enC, hkc]
    · have dl : d < nf := by omega
      obtain ⟨b1, b2, b3, b4, b5, b6, b7, b8⟩ := f4 d dl
      have l98 : (sc z4 102 (z4.1 103) ((nf - 1) * 64 + ((fr (nf - 1)).2.2.1.1 - c)) (nf * 40) c).2.2 98 d = some (pk (fr d).1.1) := (r13 d c0).trans b2
      have rr : ∀ k, 99 ≤ k → k ≤ 100 → (sc z4 102 (z4.1 103) ((nf - 1) * 64 + ((fr (nf - 1)).2.2.1.1 - c)) (nf * 40) c).1 k d = z.1 k d := fun k k1 k2 => by
        rw [sc_1, if_neg (by omega), r6 k d k1 (by omega) c0]
        simp [si_1, show k ≠ 101 by omega]
      have lo : ∀ k s, (fr d).2.1 k = some s → k < 40 ∧ (sc z4 102 (z4.1 103) ((nf - 1) * 64 + ((fr (nf - 1)).2.2.1.1 - c)) (nf * 40) c).1 102 (d * 40 + k) = nI (enC cs cl nf (fr (nf - 1)).2.2.1.1 c d k) := fun k s hk => by
        obtain ⟨w1, w2⟩ := b7 k s hk
        have : d * 40 + k < nf * 40 := by
          have := Nat.mul_le_mul_right 40 (show d + 1 ≤ nf by omega)
          omega
        refine ⟨w1, ?_⟩
        rw [sc_1, if_pos rfl, if_neg (by omega), r7 _ this]
        simp [si_1, enC, c0]
        exact w2
      have lz : ∀ k, k < 40 → (fr d).2.1 k = none → (sc z4 102 (z4.1 103) ((nf - 1) * 64 + ((fr (nf - 1)).2.2.1.1 - c)) (nf * 40) c).1 102 (d * 40 + k) = 0 ∨ Lgn pk (fr d).1.1 (fr d).1.2.1 k := fun k h4 hk => by
        have : d * 40 + k < nf * 40 := by
          have := Nat.mul_le_mul_right 40 (show d + 1 ≤ nf by omega)
          omega
        refine (b8 k h4 hk).imp (fun w => ?_) (fun w => w)
        rw [sc_1, if_pos rfl, if_neg (by omega), r7 _ this]
        simp [si_1]
        exact w
      have st : ∀ k, k < (fr d).2.2.1.1 → (sc z4 102 (z4.1 103) ((nf - 1) * 64 + ((fr (nf - 1)).2.2.1.1 - c)) (nf * 40) c).1 103 (d * 64 + k) = nI (cs d k) := fun k hk => by
        rw [row 103 (by omega) (by omega)]; exact b6 k hk
      by_cases c1 : d = nf - 1
      · subst c1
        have eF : enF fr nf u f c nx gh ps (nf - 1) = (((fr (nf - 1)).1.1, (fr (nf - 1)).1.2.1, nx), (fr (nf - 1)).2.1, ((fr (nf - 1)).2.2.1.1 - c, (fr (nf - 1)).2.2.1.2), gh) := by
          unfold enF
          rw [setF_n (by omega), setF_s]
        rw [eF]
        refine ⟨by show (fr (nf - 1)).2.2.1.1 - c ≤ 64; omega, l98, (rr 99 (by omega) (by omega)).trans b3, ((rr 100 (by omega) (by omega)).trans b4).trans (by rw [hnx]), ?_, fun k hk => st k (by have : k < (fr (nf - 1)).2.2.1.1 - c := hk; omega), lo, lz⟩
        rw [sc_1, if_neg (by omega), r6 101 _ (by omega) (by omega) c0]
        simp [si_1]
      · have eF : enF fr nf u f c nx gh ps d = fr d := by
          unfold enF
          rw [setF_n c0, setF_n c1]
        rw [eF]
        refine ⟨b1, l98, (rr 99 (by omega) (by omega)).trans b3, (rr 100 (by omega) (by omega)).trans b4, ?_, st, lo, lz⟩
        rw [sc_1, if_neg (by omega), r6 101 _ (by omega) (by omega) c0]
        simp [si_1, c1]
        exact b5
/-- 23: no such program, too many frames, too many places -/
theorem CM.enterE1 (h : CM sh n z pk kt H m sl0 fr cs cl nf g lim) {u : Nat} {f : Int32} (hp : fn_X7_findProgram F sh n z 3 (nI u) = some (z, some (pk u))) (hn : nf = 32) : ∃ z', fn_X4_enter F sh n z 87 (nI u) f = some (z', ()) ∧ CE sh n z' 2 4 g sl0 ∧ FrC z z' := by
  obtain ⟨z2, p1, p2, p3⟩ := h.fin (F := F) 2 4
  refine ⟨z2, ?_, p2, p3⟩
  unfold fn_X4_enter
  rw [(b_mach h.1).1, grd_true, h.1.2.2 87 0 3 rfl, lnk_s, (b_state h.1).1, grd_true, hp, cal_s, nul_s, h.2.2.1.1, if_pos (by subst hn; decide), show (2 : Int32) = nI 2 from rfl, p1, cal_s]
theorem CM.enterE2 (h : CM sh n z pk kt H m sl0 fr cs cl nf g lim) {u : Nat} {f : Int32} {z1 : St} {r : Int32} (h1 : CM sh n z1 pk kt H m sl0 fr cs cl nf g lim) (hp : fn_X7_findProgram F sh n z 3 (nI u) = some (z, some (pk u))) (hn : nf < 32) (ha : fn_X2_ask F sh n z 104 2 0 (nI u) 0 = some (z1, r)) (hr : ¬ (0 : Int32) ≤ r) : ∃ z', fn_X4_enter F sh n z 87 (nI u) f = some (z', ()) ∧ CE sh n z' 2 4 g sl0 ∧ FrC z1 z' := by
  obtain ⟨z2, p1, p2, p3⟩ := h1.fin (F := F) 2 4
  refine ⟨z2, ?_, p2, p3⟩
  have e1 : nI (nf - 1) + 1 = nI nf := by rw [nI_1, Nat.sub_add_cancel h.2.2.1.2.1]
  unfold fn_X4_enter
  rw [(b_mach h.1).1, grd_true, h.1.2.2 87 0 3 rfl, lnk_s, (b_state h.1).1, grd_true, hp, cal_s, nul_s, h.2.2.1.1, e1, if_neg (fun q => by have := (nIge (x := 32) 32 rfl (by omega) (by omega)).mp q; omega), h.1.2.2 87 2 104 rfl, lnk_s, (b_jour h.1).1, grd_true, ha, cal_s, if_neg hr, show (2 : Int32) = nI 2 from rfl, p1, cal_s]
theorem CM.enterG (h : CM sh n z pk kt H m sl0 fr cs cl nf g lim) {u : Nat} {f : Int32} {z1 : St} {r : Int32} (h1 : CM sh n z1 pk kt H m sl0 fr cs cl nf g lim) (hp : fn_X7_findProgram F sh n z 3 (nI u) = some (z, some (pk u))) (hn : nf < 32) (ha : fn_X2_ask F sh n z 104 2 0 (nI u) 0 = some (z1, r)) (hr : (0 : Int32) ≤ r) (hg : lim < g + 5) : ∃ z', fn_X4_enter F sh n z 87 (nI u) f = some (z', ()) ∧ CE sh n z' 2 5 lim sl0 ∧ FrC z1 z' := by
  obtain ⟨z2, p1, p2, p3⟩ := h1.payE (F := F) (c := 5) hg (by omega)
  refine ⟨z2, ?_, p2, p3⟩
  have e1 : nI (nf - 1) + 1 = nI nf := by rw [nI_1, Nat.sub_add_cancel h.2.2.1.2.1]
  unfold fn_X4_enter
  rw [(b_mach h.1).1, grd_true, h.1.2.2 87 0 3 rfl, lnk_s, (b_state h.1).1, grd_true, hp, cal_s, nul_s, h.2.2.1.1, e1, if_neg (fun q => by have := (nIge (x := 32) 32 rfl (by omega) (by omega)).mp q; omega), h.1.2.2 87 2 104 rfl, lnk_s, (b_jour h.1).1, grd_true, ha, cal_s, if_pos hr, show (5 : Int32) = nI 5 from rfl, p1, cal_s, if_pos rfl]
theorem CM.enterN (hF : 300 ≤ F) (h : CM sh n z pk kt H m sl0 fr cs cl nf g lim) {u f : Nat} {z1 : St} {r : Int32} (h1 : CM sh n z1 pk kt H m sl0 fr cs cl nf g lim) (hp : fn_X7_findProgram F sh n z 3 (nI u) = some (z, some (pk u))) (hn : nf < 32) (ha : fn_X2_ask F sh n z 104 2 0 (nI u) 0 = some (z1, r)) (hr : (0 : Int32) ≤ r) (hg : g + 5 ≤ lim) {c nx : Nat} (ho : okO sh n (pk u) 5 = true) (htk : ∀ z', FrC z1 z' → fn_X5_takes F sh n z' (pk u) (nI f) = some (z', nI c)) (hc : c ≤ (fr (nf - 1)).2.2.1.1) (hc8 : c ≤ 40) (hnx : (fr (nf - 1)).1.2.2 = nx) (gh : Nat → Option Sl) (ps : Nat → Sl) : ∃ z', fn_X4_enter F sh n z 87 (nI u) (nI f) = some (z', ()) ∧ CM sh n z' pk kt H m sl0 (enF fr nf u f c nx gh ps) cs (enC cs cl nf (fr (nf - 1)).2.2.1.1 c) (nf + 1) (g + 5) lim ∧ FrD z1 z' := by
  obtain ⟨z2, p1, p2, p3⟩ := h1.pay (F := F) (c := 5) hg
  obtain ⟨b1, b2, b3, b4, b5, b6, b7⟩ := p2.2.2.1.2.2.2 (nf - 1) (by have := h.2.2.1.2.1; omega)
  obtain ⟨w1, w2⟩ := p2.enterF hn (u := u) (f := f) hc hc8 hnx gh ps
  refine ⟨_, ?_, w1, p3.d.trans w2⟩
  obtain ⟨t1, t2, t3⟩ := p2.t0
  have f2 := h.2.2.1.2.1
  have L3 : Lay sh n (si z2 101 (nf - 1) (nI ((fr (nf - 1)).2.2.1.1 - c))) := p2.1.of rfl
  have e1 : nI (nf - 1) + 1 = nI nf := by rw [nI_1, Nat.sub_add_cancel h.2.2.1.2.1]
  have pf := pushFrame_t (F := F) hF L3 (d := nf) (p := pk u) hn (by simp [si_1]; rw [t1, e1]) ho (nI f)
  obtain ⟨r1, r2, r3, r4, r5, r6, r7, r8, r9, r10, r11, r12, r13, r14⟩ := pf_rows (si z2 101 (nf - 1) (nI ((fr (nf - 1)).2.2.1.1 - c))) nf (pk u) (nI f)
  have oi : okA sh n 101 101 (nI (nf - 1)) = true := by rw [lay_a h.1 101 101 32 (by decide) rfl]; exact okI_nI (by omega) (by omega)
  have nlt : ¬ nI (fr (nf - 1)).2.2.1.1 < nI c := by
    apply Int32.not_lt.mpr
    exact (nI_leI (by omega) (by omega)).mpr hc
  have ea : nI (nf - 1) * 64 + nI (fr (nf - 1)).2.2.1.1 - nI c = nI ((nf - 1) * 64 + ((fr (nf - 1)).2.2.1.1 - c)) := by
    rw [show (64 : Int32) = nI 64 from rfl, pk_mul, nI_add, pk_sub (by omega), Nat.add_sub_assoc hc]
  have es : nI (fr (nf - 1)).2.2.1.1 - nI c = nI ((fr (nf - 1)).2.2.1.1 - c) := pk_sub hc
  have em : nI nf * 40 = nI (nf * 40) := by rw [show (40 : Int32) = nI 40 from rfl, pk_mul]
  have tI : ∀ x : Nat, x < 2 ^ 31 → 0 ≤ (nI x).toInt := fun x hx => by rw [nI_toInt hx]; omega
  have oc : okC 2048 1280 (nI ((nf - 1) * 64 + ((fr (nf - 1)).2.2.1.1 - c))) (nI (nf * 40)) (nI c) = true := by
    unfold okC
    rw [nI_clamp (by omega), nI_clamp (by omega), nI_clamp (by omega)]
    simp only [Bool.and_eq_true, decide_eq_true_eq]
    refine ⟨⟨tI _ (by omega), tI _ (by omega), tI _ (by omega)⟩, by omega, by omega⟩
  have s103 : (sh 103).2 = 2048 := by rw [h.1.2.1 103 (by omega)]; rfl
  have s102 : (sh 102).2 = 1280 := by rw [h.1.2.1 102 (by omega)]; rfl
  have L4 := L3.of98 r14
  unfold fn_X4_enter
  rw [(b_mach h.1).1, grd_true, h.1.2.2 87 0 3 rfl, lnk_s, (b_state h.1).1, grd_true, hp, cal_s, nul_s, h.2.2.1.1, e1, if_neg (fun q => by have := (nIge (x := 32) 32 rfl (by omega) (by omega)).mp q; omega), h.1.2.2 87 2 104 rfl, lnk_s, (b_jour h.1).1, grd_true, ha, cal_s, if_pos hr, show (5 : Int32) = nI 5 from rfl, p1, cal_s, if_neg one0, ho, grd_true, htk z2 p3, cal_s, p2.1.2.2 87 9 101 rfl, lnk_s, t1, oi, grd_true, t3, b5, if_pos ((nI_leI (by omega) (by omega)).mpr hc)]
  unfold fn_X4_enter_B86
  rw [htk z2 p3, cal_s, p2.1.2.2 87 9 101 rfl, lnk_s, t1, oi, grd_true, t3, b5, if_neg nlt, lt_t, lnk_s, oi, grd_true, b5, ea, lt_t, lnk_s, oi, grd_true, grd_true, b5, es, lt_t, pf, cal_s, L4.2.2 87 11 103 rfl, lnk_s, L4.2.2 87 10 102 rfl, lnk_s, lay_o h.1 102 101 1280 (by decide) rfl, grd_true, lay_o h.1 103 101 2048 (by decide) rfl, grd_true, r1, em, s103, s102, oc, grd_true, nI_clamp (by omega), nI_clamp (by omega), nI_clamp (by omega), lt_t]
end
