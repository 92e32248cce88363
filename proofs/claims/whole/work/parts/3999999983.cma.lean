/-! THE CLASS'S MACHINE: rows as frames; cs, cl: its own nodes on stacks and in locals; pk: a unit's program -/
/-- local k of function f of unit u may be dropped: told by the far end of the table of programs -/
def Lgn (pk : Nat → Nat) (u f k : Nat) : Prop := pk (10 + ((u * 65536 + f) * 64 + k)) = 1
def CFd (z : St) (pk : Nat → Nat) (fr : Nat → Fm) (cs cl : Nat → Nat → Nat) (d : Nat) : Prop := (fr d).2.2.1.1 ≤ 64 ∧ z.2.2 98 d = some (pk (fr d).1.1) ∧ z.1 99 d = nI (fr d).1.2.1 ∧ z.1 100 d = nI (fr d).1.2.2 ∧ z.1 101 d = nI (fr d).2.2.1.1 ∧ (∀ k, k < (fr d).2.2.1.1 → z.1 103 (d * 64 + k) = nI (cs d k)) ∧ (∀ k s, (fr d).2.1 k = some s → k < 40 ∧ z.1 102 (d * 40 + k) = nI (cl d k)) ∧ ∀ k, k < 40 → (fr d).2.1 k = none → z.1 102 (d * 40 + k) = 0 ∨ Lgn pk (fr d).1.1 (fr d).1.2.1 k
def CFs (z : St) (pk : Nat → Nat) (fr : Nat → Fm) (cs cl : Nat → Nat → Nat) (nf : Nat) : Prop := z.1 87 12 = nI (nf - 1) ∧ 0 < nf ∧ nf ≤ 32 ∧ ∀ d, d < nf → CFd z pk fr cs cl d
def up2 (c : Nat → Nat → Nat) (d k v : Nat) : Nat → Nat → Nat := fun e j => if e = d ∧ j = k then v else c e j
section
variable {F n : Nat} {sh : Nat → Nat × Nat} {z z' : St} {pk : Nat → Nat} {fr : Nat → Fm} {cs cl : Nat → Nat → Nat} {nf : Nat}
theorem CFs.of (h : CFs z pk fr cs cl nf) (e1 : z'.1 87 12 = z.1 87 12) (e2 : ∀ k, 99 ≤ k → k ≤ 103 → z'.1 k = z.1 k) (e3 : z'.2.2 98 = z.2.2 98) : CFs z' pk fr cs cl nf := by
  refine ⟨by rw [e1]; exact h.1, h.2.1, h.2.2.1, fun d hd => ?_⟩
  unfold CFd
  rw [e2 99 (by omega) (by omega), e2 100 (by omega) (by omega), e2 101 (by omega) (by omega), e2 102 (by omega) (by omega), e2 103 (by omega) (by omega), e3]
  exact h.2.2.2 d hd
/-- the topmost frame changes -/
theorem CFs.set (h : CFs z pk fr cs cl nf) {x : Fm} {cs' cl' : Nat → Nat → Nat} (e1 : z'.1 87 12 = z.1 87 12) (e2 : ∀ k d, 99 ≤ k → k ≤ 101 → d ≠ nf - 1 → z'.1 k d = z.1 k d) (e3 : z'.2.2 98 = z.2.2 98) (e4 : ∀ j, j < (nf - 1) * 64 → z'.1 103 j = z.1 103 j) (e5 : ∀ j, j < (nf - 1) * 40 → z'.1 102 j = z.1 102 j) (e6 : ∀ d k, d ≠ nf - 1 → cs' d k = cs d k ∧ cl' d k = cl d k) (hx : x.2.2.1.1 ≤ 64) (hu : x.1.1 = (fr (nf - 1)).1.1) (r1 : z'.1 99 (nf - 1) = nI x.1.2.1) (r2 : z'.1 100 (nf - 1) = nI x.1.2.2) (r3 : z'.1 101 (nf - 1) = nI x.2.2.1.1) (r4 : ∀ k, k < x.2.2.1.1 → z'.1 103 ((nf - 1) * 64 + k) = nI (cs' (nf - 1) k)) (r5 : ∀ k s, x.2.1 k = some s → k < 40 ∧ z'.1 102 ((nf - 1) * 40 + k) = nI (cl' (nf - 1) k)) (r6 : ∀ k, k < 40 → x.2.1 k = none → z'.1 102 ((nf - 1) * 40 + k) = 0 ∨ Lgn pk x.1.1 x.1.2.1 k) : CFs z' pk (setF fr (nf - 1) x) cs' cl' nf := by
  refine ⟨by rw [e1]; exact h.1, h.2.1, h.2.2.1, fun d hd => ?_⟩
  obtain ⟨b1, b2, b3, b4, b5, b6, b7, b8⟩ := h.2.2.2 d hd
  unfold CFd
  by_cases c : d = nf - 1
  · subst c
    rw [setF_s, e3]
    exact ⟨hx, by rw [hu]; exact b2, r1, r2, r3, r4, r5, r6⟩
  · rw [setF_n c, e3, e2 99 d (by omega) (by omega) c, e2 100 d (by omega) (by omega) c, e2 101 d (by omega) (by omega) c]
    refine ⟨b1, b2, b3, b4, b5, fun k hk => ?_, fun k s hk => ?_, fun k h4 hk => ?_⟩
    · rw [e4 _ (by omega), (e6 d k c).1]; exact b6 k hk
    · obtain ⟨w1, w2⟩ := b7 k s hk
      rw [e5 _ (by omega), (e6 d k c).2]; exact ⟨w1, w2⟩
    · rw [e5 _ (by omega)]; exact b8 k h4 hk
def cpS (z : St) (d h : Nat) (v : Int32) : St := si (si z 103 (d * 64 + h) v) 101 d (nI (h + 1))
theorem cpush_t (hL : Lay sh n z) (h : CFs z pk fr cs cl nf) (h64 : (fr (nf - 1)).2.2.1.1 < 64) (v : Int32) : fn_X4_push F sh n z 87 v = some (cpS z (nf - 1) (fr (nf - 1)).2.2.1.1 v, ()) := by
  obtain ⟨f1, f2, f3, f4⟩ := h
  obtain ⟨b1, b2, b3, b4, b5, b6, b7, b8⟩ := f4 (nf - 1) (by omega)
  have bn : okI (nI (nf - 1)) 32 = true := okI_nI (by omega) (by omega)
  have cn : (nI (nf - 1)).toNatClampNeg = nf - 1 := nI_clamp (by omega)
  have ei : nI (nf - 1) * 64 + nI (fr (nf - 1)).2.2.1.1 = nI ((nf - 1) * 64 + (fr (nf - 1)).2.2.1.1) := by rw [show (64 : Int32) = nI 64 from rfl, pk_mul, nI_add]
  have bi : okI (nI ((nf - 1) * 64 + (fr (nf - 1)).2.2.1.1)) 2048 = true := okI_nI (by omega) (by omega)
  have ci : (nI ((nf - 1) * 64 + (fr (nf - 1)).2.2.1.1)).toNatClampNeg = (nf - 1) * 64 + (fr (nf - 1)).2.2.1.1 := nI_clamp (by omega)
  have lt : nI (fr (nf - 1)).2.2.1.1 < 64 := by
    apply Int32.not_le.mp
    intro q
    have := (nIge (x := 64) 64 rfl (by omega) (by omega)).mp q
    omega
  have e12 : ∀ w, (si z 103 ((nf - 1) * 64 + (fr (nf - 1)).2.2.1.1) w).1 87 12 = nI (nf - 1) := fun w => by simp [si_1]; exact f1
  have e101 : ∀ w, (si z 103 ((nf - 1) * 64 + (fr (nf - 1)).2.2.1.1) w).1 101 (nf - 1) = nI (fr (nf - 1)).2.2.1.1 := fun w => by simp [si_1]; exact b5
  unfold fn_X4_push
  simp only [b_mach hL, grd_true, lnk_s, f1, bn, cn, b5, if_pos lt, ei, bi, ci, lt_t, si_3, e12, e101, nI_1]
  rfl
theorem CFs.push (h : CFs z pk fr cs cl nf) (h64 : (fr (nf - 1)).2.2.1.1 < 64) (s : Sl) (v : Nat) : CFs (cpS z (nf - 1) (fr (nf - 1)).2.2.1.1 (nI v)) pk (setF fr (nf - 1) (pshV (fr (nf - 1)) s)) (up2 cs (nf - 1) (fr (nf - 1)).2.2.1.1 v) cl nf := by
  obtain ⟨b1, b2, b3, b4, b5, b6, b7, b8⟩ := h.2.2.2 (nf - 1) (by have := h.2.1; omega)
  refine h.set (by simp [cpS, si_1]) (fun k d k1 k2 hd => by simp [cpS, si_1, show k ≠ 103 by omega, hd]; intro e; rw [e]) rfl (fun j hj => by simp [cpS, si_1, show j ≠ (nf - 1) * 64 + (fr (nf - 1)).2.2.1.1 by omega]) (fun j hj => by simp [cpS, si_1]) (fun d k hd => ⟨by simp [up2, hd], rfl⟩) (by simp only [pshV, setN]; omega) rfl (by simp [cpS, si_1]; exact b3) (by simp [cpS, si_1]; exact b4) (by simp [cpS, si_1, pshV, setN]) (fun k hk => ?_) (fun k s hk => ?_) (fun k h4 hk => (b8 k h4 hk).imp (fun w => by simp [cpS, si_1]; exact w) (fun w => w))
  · simp only [pshV, setN] at hk
    by_cases c : k = (fr (nf - 1)).2.2.1.1
    · subst c; simp [cpS, si_1, up2]
    · simp [cpS, si_1, up2, c]
      exact b6 k (by omega)
  · obtain ⟨w1, w2⟩ := b7 k s hk
    exact ⟨w1, by simp [cpS, si_1]; exact w2⟩
theorem cpop_t (hL : Lay sh n z) (h : CFs z pk fr cs cl nf) (h1 : 1 ≤ (fr (nf - 1)).2.2.1.1) : fn_X4_pop F sh n z 87 = some (si z 101 (nf - 1) (nI ((fr (nf - 1)).2.2.1.1 - 1)), nI (cs (nf - 1) ((fr (nf - 1)).2.2.1.1 - 1))) := by
  obtain ⟨f1, f2, f3, f4⟩ := h
  obtain ⟨b1, b2, b3, b4, b5, b6, b7, b8⟩ := f4 (nf - 1) (by omega)
  have bn : okI (nI (nf - 1)) 32 = true := okI_nI (by omega) (by omega)
  have cn : (nI (nf - 1)).toNatClampNeg = nf - 1 := nI_clamp (by omega)
  have nz : ¬ nI (fr (nf - 1)).2.2.1.1 = 0 := nI_ne0 (by omega) (by omega)
  have es : nI (fr (nf - 1)).2.2.1.1 - 1 = nI ((fr (nf - 1)).2.2.1.1 - 1) := pk_sub (a := (fr (nf - 1)).2.2.1.1) (b := 1) h1
  have ei : nI (nf - 1) * 64 + nI ((fr (nf - 1)).2.2.1.1 - 1) = nI ((nf - 1) * 64 + ((fr (nf - 1)).2.2.1.1 - 1)) := by rw [show (64 : Int32) = nI 64 from rfl, pk_mul, nI_add]
  have bi : okI (nI ((nf - 1) * 64 + ((fr (nf - 1)).2.2.1.1 - 1))) 2048 = true := okI_nI (by omega) (by omega)
  have ci : (nI ((nf - 1) * 64 + ((fr (nf - 1)).2.2.1.1 - 1))).toNatClampNeg = (nf - 1) * 64 + ((fr (nf - 1)).2.2.1.1 - 1) := nI_clamp (by omega)
  have e12 : ∀ w, (si z 101 (nf - 1) w).1 87 12 = nI (nf - 1) := fun w => by simp [si_1]; exact f1
  have e101 : ∀ w, (si z 101 (nf - 1) w).1 101 (nf - 1) = w := fun w => by simp [si_1]
  have e103 : ∀ w, (si z 101 (nf - 1) w).1 103 ((nf - 1) * 64 + ((fr (nf - 1)).2.2.1.1 - 1)) = nI (cs (nf - 1) ((fr (nf - 1)).2.2.1.1 - 1)) := fun w => by simp [si_1]; exact b6 _ (by omega)
  unfold fn_X4_pop
  simp only [b_mach hL, grd_true, lnk_s, f1, bn, cn, b5, if_neg nz, lt_t, si_3, e12, e101, es, ei, bi, ci, e103]
theorem CFs.pop (h : CFs z pk fr cs cl nf) {c : Nat} (hc : c ≤ (fr (nf - 1)).2.2.1.1) : CFs (si z 101 (nf - 1) (nI c)) pk (setF fr (nf - 1) (setH (fr (nf - 1)) c)) cs cl nf := by
  obtain ⟨b1, b2, b3, b4, b5, b6, b7, b8⟩ := h.2.2.2 (nf - 1) (by have := h.2.1; omega)
  refine h.set (by simp [si_1]) (fun k d k1 k2 hd => by simp [si_1, hd]; intro e; rw [e]) rfl (fun j hj => by simp [si_1]) (fun j hj => by simp [si_1]) (fun d k hd => ⟨rfl, rfl⟩) (by simp only [setH]; omega) rfl (by simp [si_1]; exact b3) (by simp [si_1]; exact b4) (by simp [si_1, setH]) (fun k hk => by simp [si_1]; exact b6 k (by simp only [setH] at hk; omega)) (fun k s hk => ?_) (fun k h4 hk => (b8 k h4 hk).imp (fun w => by simp [si_1]; exact w) (fun w => w))
  obtain ⟨w1, w2⟩ := b7 k s hk
  exact ⟨w1, by simp [si_1]; exact w2⟩
end
