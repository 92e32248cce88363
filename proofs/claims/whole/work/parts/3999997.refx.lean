/-! THE REFERENCE'S MACHINE: a frame is entered -/
section
variable {F n : Nat} {sh : Nat → Nat × Nat} {z z' : St} {H : Hp} {m : Nat} {fr : Nat → Fm} {nf na : Nat} {ak : Nat → Ask} {g lim : Nat}
theorem local_t (hL : Lay sh n z) {d : Nat} (h : z.1 337 36 = nI (d + 1)) (k : Nat) : fn_X18_local F sh n z 337 (nI k) = some (z, nI (40 * d + k)) := by
  unfold fn_X18_local
  simp only [b_model hL, grd_true, h]
  rw [show nI (d + 1) - 1 = nI d from by have := pk_sub (a := d + 1) (b := 1) (by omega); rw [Nat.add_sub_cancel] at this; exact this, show (40 : Int32) = nI 40 from rfl, pk_mul, nI_add]
theorem enterA {d : Nat} (hd : d < 32) {x2 v2 : Int32} : ∀ r p f z0, p + r = 40 → r < f → Lay sh n z0 → z0.1 337 36 = nI (d + 1) → ∃ z', fn_X18_enter_L43 F sh n x2 337 v2 f z0 (nI p) = fn_X18_enter_L71 F sh n x2 337 v2 F z' 0 ∧ z'.2 = z0.2 ∧ (∀ k, k ≠ 395 → z'.1 k = z0.1 k) ∧ ∀ j, j < 40 * d → z'.1 395 j = z0.1 395 j := by
  intro r
  induction r with
  | zero =>
    intro p f z0 e hf hL h
    obtain ⟨f', rfl⟩ : ∃ q, f = q + 1 := ⟨f - 1, by omega⟩
    refine ⟨z0, ?_, rfl, fun _ _ => rfl, fun _ _ => rfl⟩
    unfold fn_X18_enter_L43
    rw [if_pos ((nIge (x := 40) 40 rfl (by omega) (by omega)).mpr (by omega))]
  | succ r ih =>
    intro p f z0 e hf hL h
    obtain ⟨f', rfl⟩ : ∃ q, f = q + 1 := ⟨f - 1, by omega⟩
    have hL1 : Lay sh n (si z0 395 (40 * d + p) (-1)) := hL.of rfl
    obtain ⟨z', q1, q2, q3, q4⟩ := ih (p + 1) f' (si z0 395 (40 * d + p) (-1)) (by omega) (by omega) hL1 (by simp [si_1]; exact h)
    refine ⟨z', ?_, by rw [q2]; rfl, fun k hk => by rw [q3 k hk]; funext j; simp [si_1, hk], fun j hj => by rw [q4 j hj]; simp [si_1, show j ≠ 40 * d + p by omega]⟩
    unfold fn_X18_enter_L43
    rw [if_neg (fun q => by have := (nIge (x := 40) 40 rfl (by omega) (by omega)).mp q; omega)]
    simp only [b_model hL, grd_true, lnk_s, local_t hL h p, cal_s, okI_nI (show 40 * d + p < 1280 by omega) (by omega), nI_clamp (n := 40 * d + p) (by omega), lt_t, nI_1]
    exact q1
theorem enterB {d c hh : Nat} (hd : d < 32) (hc : c ≤ 40) (hch : c ≤ hh) (hh2 : hh < 2200) : ∀ r p f z0, p + r = c → r < f → Lay sh n z0 → z0.1 337 36 = nI (d + 1) → z0.1 337 45 = nI hh → (∀ i, i < c → ∃ b, z0.1 398 (hh - c + i) = bI b) → ∃ z', fn_X18_enter_L71 F sh n (nI c) 337 (nI d) f z0 (nI p) = some (z', ()) ∧ z'.2 = z0.2 ∧ (∀ k, k ≠ 395 → k ≠ 396 → k ≠ 394 → k ≠ 337 → z'.1 k = z0.1 k) ∧ (∀ j, j ≠ 45 → z'.1 337 j = z0.1 337 j) ∧ z'.1 337 45 = nI (hh - c) ∧ (∀ j, j ≠ d → z'.1 394 j = z0.1 394 j) ∧ z'.1 394 d = nI (hh - c) ∧ (∀ j, (j < 40 * d + p ∨ 40 * d + c ≤ j) → z'.1 395 j = z0.1 395 j ∧ z'.1 396 j = z0.1 396 j) ∧ ∀ i, p ≤ i → i < c → z'.1 395 (40 * d + i) = z0.1 397 (hh - c + i) ∧ z'.1 396 (40 * d + i) = z0.1 398 (hh - c + i) := by
  intro r
  induction r with
  | zero =>
    intro p f z0 e hf hL h h45 _
    obtain ⟨f', rfl⟩ : ∃ q, f = q + 1 := ⟨f - 1, by omega⟩
    have ep : p = c := by omega
    subst ep
    have s45 : (si z0 337 45 (nI (hh - p))).1 337 45 = nI (hh - p) := by simp [si_1]
    refine ⟨si (si z0 337 45 (nI (hh - p))) 394 d (nI (hh - p)), ?_, rfl, fun k a b c' e => by funext j; simp [si_1, c', e], fun j hj => by simp [si_1, hj], by simp [si_1], fun j hj => by simp [si_1, hj], by simp [si_1], fun j _ => ⟨by simp [si_1], by simp [si_1]⟩, fun i a b => by omega⟩
    unfold fn_X18_enter_L71
    rw [if_pos ((nI_leI (by omega) (by omega)).mpr (by omega)), h45, show nI hh - nI p = nI (hh - p) from pk_sub hch]
    simp only [lt_t, si_3, b_model hL, grd_true, lnk_s, okI_nI hd (by omega), nI_clamp (n := d) (by omega), s45]
  | succ r ih =>
    intro p f z0 e hf hL h h45 hb
    obtain ⟨f', rfl⟩ : ∃ q, f = q + 1 := ⟨f - 1, by omega⟩
    obtain ⟨b, hb1⟩ := hb p (by omega)
    have hL1 : Lay sh n (si z0 395 (40 * d + p) (z0.1 397 (hh - c + p))) := hL.of rfl
    have h36 : (si z0 395 (40 * d + p) (z0.1 397 (hh - c + p))).1 337 36 = nI (d + 1) := by simp [si_1]; exact h
    have w45 : (si z0 395 (40 * d + p) (z0.1 397 (hh - c + p))).1 337 45 = nI hh := by simp [si_1]; exact h45
    have w398 : (si z0 395 (40 * d + p) (z0.1 397 (hh - c + p))).1 398 (hh - c + p) = bI b := by simp [si_1]; exact hb1
    obtain ⟨z', q1, q2, q3, q4, q5, q6, q7, q8, q9⟩ := ih (p + 1) f' (si (si z0 395 (40 * d + p) (z0.1 397 (hh - c + p))) 396 (40 * d + p) (bI b)) (by omega) (by omega) (hL.of rfl) (by simp [si_1]; exact h) (by simp [si_1]; exact h45) (fun i hi => by
      obtain ⟨b', hb'⟩ := hb i hi
      exact ⟨b', by simp [si_1]; exact hb'⟩)
    refine ⟨z', ?_, by rw [q2]; rfl, fun k a b c' e => by rw [q3 k a b c' e]; funext j; simp [si_1, a, b], fun j hj => by rw [q4 j hj]; simp [si_1], q5, fun j hj => by rw [q6 j hj]; simp [si_1], q7, fun j hj => ?_, fun i a b' => ?_⟩
    · have e35 : hh - c + p < 2200 := by omega
      unfold fn_X18_enter_L71
      rw [if_neg (fun q => by have := (nI_leI (by omega) (by omega)).mp q; omega)]
      simp only [b_model hL, grd_true, lnk_s, local_t hL h p, local_t hL1 h36 p, cal_s, h45, w45, show nI hh - nI c = nI (hh - c) from pk_sub hch, nI_add, okI_nI e35 (by omega), nI_clamp (n := hh - c + p) (by omega), okI_nI (show 40 * d + p < 1280 by omega) (by omega), nI_clamp (n := 40 * d + p) (by omega), lt_t, si_3, w398, nar_bI, nI_1]
      exact q1
    · obtain ⟨w1, w2⟩ := q8 j (by omega)
      have : j ≠ 40 * d + p := by omega
      exact ⟨by rw [w1]; simp [si_1, this], by rw [w2]; simp [si_1, this]⟩
    · by_cases c' : i = p
      · subst c'
        obtain ⟨w1, w2⟩ := q8 (40 * d + i) (by omega)
        exact ⟨by rw [w1]; simp [si_1], by rw [w2]; simp [si_1]; exact hb1.symm⟩
      · obtain ⟨w1, w2⟩ := q9 i (by omega) b'
        exact ⟨by rw [w1]; simp [si_1], by rw [w2]; simp [si_1]⟩
/-- a frame is entered, c slots become its first locals -/
theorem RM.enter (hF : 300 ≤ F) (h : RM sh n z H m fr nf na ak g lim) (hn : nf < 32) {u f c nx : Nat} (hc : c ≤ (fr (nf - 1)).2.2.1.1) (hc8 : c ≤ 40) (hnx : (fr (nf - 1)).1.2.2 = nx) (gh : Nat → Option Sl) (ps : Nat → Sl) (hp : ∀ k, k < c → (ps k).1 = ((fr (nf - 1)).2.2.1.2 ((fr (nf - 1)).2.2.1.1 - c + k)).1 ∧ (ps k).2.1 = ((fr (nf - 1)).2.2.1.2 ((fr (nf - 1)).2.2.1.1 - c + k)).2.1) : ∃ z', fn_X18_enter F sh n z 337 (nI u) (nI f) (nI c) = some (z', ()) ∧ RM sh n z' H m (setF (setF fr (nf - 1) (((fr (nf - 1)).1.1, (fr (nf - 1)).1.2.1, nx), (fr (nf - 1)).2.1, ((fr (nf - 1)).2.2.1.1 - c, (fr (nf - 1)).2.2.1.2), gh)) nf ((u, f, 0), (fun k => if k < c then some (ps k) else none), (0, fun _ => (0, 0, 0, 0, false)), fun _ => none)) (nf + 1) na ak g lim ∧ FrR z z' := by
  obtain ⟨hL, hr, hM, hf, ha, g1, g2, g3, g4⟩ := h
  obtain ⟨t1, t2, t3⟩ := hf.top
  obtain ⟨a1, a2, a3, a4, a5, a6, a7⟩ := t1
  have hn0 := hf.2.1
  have bn : okI (nI nf) 32 = true := okI_nI hn (by omega)
  have cn : (nI nf).toNatClampNeg = nf := nI_clamp (by omega)
  let z1 : St := si (si (si (si z 337 36 (nI (nf + 1))) 391 nf (nI u)) 392 nf (nI f)) 393 nf 0
  have hL1 : Lay sh n z1 := hL.of rfl
  have z36 : z1.1 337 36 = nI (nf + 1) := by simp [z1, si_1]
  obtain ⟨z2, p1, p2, p3, p4⟩ := enterA (F := F) (x2 := nI c) (v2 := nI nf) hn 40 0 F z1 (by omega) (by omega) hL1 z36
  have hL2 : Lay sh n z2 := hL1.of (by rw [p2])
  have e337 : z2.1 337 = z1.1 337 := p3 337 (by decide)
  have z45 : z2.1 337 45 = nI (bsm fr nf) := by rw [e337]; simp [z1, si_1]; exact hf.2.2.2.1
  have r398 : ∀ i, i < c → z2.1 397 (bsm fr nf - c + i) = nI ((fr (nf - 1)).2.2.1.2 ((fr (nf - 1)).2.2.1.1 - c + i)).1 ∧ z2.1 398 (bsm fr nf - c + i) = bI (rB ((fr (nf - 1)).2.2.1.2 ((fr (nf - 1)).2.2.1.1 - c + i))) := fun i hi => by
    have := a6 ((fr (nf - 1)).2.2.1.1 - c + i) (by omega)
    rw [show bsm fr (nf - 1) + ((fr (nf - 1)).2.2.1.1 - c + i) = bsm fr nf - c + i by omega] at this
    rw [p3 397 (by decide), p3 398 (by decide)]
    simp [z1, si_1]
    simpa using this
  obtain ⟨z3, q1, q2, q3, q4, q5, q6, q7, q8, q9⟩ := enterB (F := F) (d := nf) (c := c) (hh := bsm fr nf) hn hc8 (by omega) (by omega) c 0 F z2 (by omega) (by omega) hL2 (by rw [e337]; exact z36) z45 (fun i hi => ⟨_, (r398 i hi).2⟩)
  have k0 : ∀ k, k ≠ 395 → k ≠ 396 → k ≠ 394 → k ≠ 337 → k ≠ 391 → k ≠ 392 → k ≠ 393 → z3.1 k = z.1 k := fun k x1 x2 x3 x4 x5 x6 x7 => by
    rw [q3 k x1 x2 x3 x4, p3 k x1]
    funext j; simp [z1, si_1, x4, x5, x6, x7]
  have k337 : ∀ j, j ≠ 45 → j ≠ 36 → z3.1 337 j = z.1 337 j := fun j x1 x2 => by
    rw [q4 j x1, e337]; simp [z1, si_1, x2]
  have k3 : z3.2 = z.2 := q2.trans (p2.trans rfl)
  have krow : ∀ k, 391 ≤ k → k ≤ 393 → z3.1 k = z1.1 k := fun k x1 x2 => by rw [q3 k (by omega) (by omega) (by omega) (by omega), p3 k (by omega)]
  refine ⟨z3, ?_, ⟨hL2.of (by rw [q2]), by unfold Run; rw [k337 27 (by decide) (by decide)]; exact hr, hM.fr (fun k x1 x2 => k0 k (by omega) (by omega) (by omega) (by omega) (by omega) (by omega) (by omega)) (fun k _ _ => by rw [k3]), ⟨?_, by omega, by omega, ?_, fun d hd => ?_⟩, ha.of (k337 29 (by decide) (by decide)) (fun k x1 x2 => ⟨k0 k (by omega) (by omega) (by omega) (by omega) (by omega) (by omega) (by omega), by rw [k3]⟩), by rw [k337 26 (by decide) (by decide)]; exact g1, by rw [k337 25 (by decide) (by decide)]; exact g2, g3, g4⟩, ⟨by rw [k3], fun k k1 k2 => ⟨k0 k (fun e => k2 (by rw [e]; right; right; omega)) (fun e => k2 (by rw [e]; right; right; omega)) (fun e => k2 (by rw [e]; right; right; omega)) k1 (fun e => k2 (by rw [e]; right; right; omega)) (fun e => k2 (by rw [e]; right; right; omega)) (fun e => k2 (by rw [e]; right; right; omega)), by rw [k3]⟩, fun j hj => ⟨k337 j (fun e => hj (by rw [e]; simp [mfl])) (fun e => hj (by rw [e]; simp [mfl])), by rw [k3]⟩⟩⟩
  · unfold fn_X18_enter
    simp only [b_model hL, grd_true, lt_t, hf.1, nI_1, si_3, lnk_s, bn, cn]
    exact p1.trans q1
  · rw [q4 36 (by decide), e337]; exact z36
  · rw [q5]
    have e0 : bsm (setF fr (nf - 1) (((fr (nf - 1)).1.1, (fr (nf - 1)).1.2.1, nx), (fr (nf - 1)).2.1, ((fr (nf - 1)).2.2.1.1 - c, (fr (nf - 1)).2.2.1.2), gh)) nf = bsm fr nf - c := by
      rw [bsm_p hn0, bsm_set (Nat.le_refl _), setF_s]
      simp only
      omega
    rw [bsm_p (fr := setF (setF _ _ _) _ _) (by omega : 0 < nf + 1), show nf + 1 - 1 = nf by omega, bsm_set (Nat.le_refl _), setF_s, e0]
    rfl
  · by_cases c1 : d = nf
    · subst c1
      unfold RFd
      rw [setF_s, bsm_set (Nat.le_refl _)]
      have eb : bsm (setF fr (d - 1) (((fr (d - 1)).1.1, (fr (d - 1)).1.2.1, nx), (fr (d - 1)).2.1, ((fr (d - 1)).2.2.1.1 - c, (fr (d - 1)).2.2.1.2), gh)) d = bsm fr d - c := by
        rw [bsm_p hn0, bsm_set (Nat.le_refl _), setF_s]
        simp only
        omega
      rw [eb]
      refine ⟨by simp, by rw [krow 391 (by omega) (by omega)]; simp [z1, si_1], by rw [krow 392 (by omega) (by omega)]; simp [z1, si_1], by rw [krow 393 (by omega) (by omega)]; simp [z1, si_1]; rfl, q7, fun k hk => absurd hk (by simp), fun k s hk => ?_⟩
      simp only at hk
      by_cases ck : k < c
      · rw [if_pos ck] at hk; cases hk
        obtain ⟨w1, w2⟩ := q9 k (by omega) ck
        obtain ⟨v1, v2⟩ := r398 k ck
        obtain ⟨x1, x2⟩ := hp k ck
        refine ⟨by omega, by rw [w1, v1, x1], ?_⟩
        rw [w2, v2]
        unfold rB
        rw [x2]
      · rw [if_neg ck] at hk; exact absurd hk (by simp)
    · have rows : z3.1 391 d = z.1 391 d ∧ z3.1 392 d = z.1 392 d ∧ z3.1 393 d = z.1 393 d ∧ z3.1 394 d = z.1 394 d := by
        refine ⟨by rw [krow 391 (by omega) (by omega)]; simp [z1, si_1, c1], by rw [krow 392 (by omega) (by omega)]; simp [z1, si_1, c1], by rw [krow 393 (by omega) (by omega)]; simp [z1, si_1, c1], ?_⟩
        rw [q6 d c1, p3 394 (by decide)]; simp [z1, si_1]
      have locs : ∀ k, k < 40 → z3.1 395 (40 * d + k) = z.1 395 (40 * d + k) ∧ z3.1 396 (40 * d + k) = z.1 396 (40 * d + k) := fun k hk => by
        obtain ⟨w1, w2⟩ := q8 (40 * d + k) (.inl (by omega))
        rw [w1, w2, p4 _ (by omega), p3 396 (by decide)]
        constructor <;> simp [z1, si_1]
      by_cases c2 : d = nf - 1
      · subst c2
        unfold RFd
        rw [setF_n c1, setF_s, bsm_set (by omega), bsm_set (Nat.le_refl _)]
        refine ⟨by simp only; omega, by rw [rows.1]; exact a2, by rw [rows.2.1]; exact a3, by rw [rows.2.2.1, a4, hnx], by rw [rows.2.2.2]; exact a5, fun k hk => ?_, fun k s hk => ?_⟩
        · rw [k0 397 (by decide) (by decide) (by decide) (by decide) (by decide) (by decide) (by decide), k0 398 (by decide) (by decide) (by decide) (by decide) (by decide) (by decide) (by decide)]
          exact a6 k (by simp only at hk; omega)
        · obtain ⟨w0, w1, w2⟩ := a7 k s hk
          obtain ⟨v1, v2⟩ := locs k w0
          exact ⟨w0, by rw [v1]; exact w1, by rw [v2]; exact w2⟩
      · obtain ⟨b1, b2, b3, b4, b5, b6, b7⟩ := hf.2.2.2.2 d (by omega)
        unfold RFd
        rw [setF_n c1, setF_n c2, bsm_set (by omega), bsm_set (by omega)]
        refine ⟨b1, by rw [rows.1]; exact b2, by rw [rows.2.1]; exact b3, by rw [rows.2.2.1]; exact b4, by rw [rows.2.2.2]; exact b5, fun k hk => ?_, fun k s hk => ?_⟩
        · rw [k0 397 (by decide) (by decide) (by decide) (by decide) (by decide) (by decide) (by decide), k0 398 (by decide) (by decide) (by decide) (by decide) (by decide) (by decide) (by decide)]
          exact b6 k hk
        · obtain ⟨w0, w1, w2⟩ := b7 k s hk
          obtain ⟨v1, v2⟩ := locs k w0
          exact ⟨w0, by rw [v1]; exact w1, by rw [v2]; exact w2⟩
end
