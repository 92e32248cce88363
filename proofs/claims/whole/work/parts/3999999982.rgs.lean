/-! THE REFERENCE'S MACHINE: before the first frame -/
/-- c arguments stand on the stack, nodes ps -/
def RB (sh : Nat → Nat × Nat) (n : Nat) (z : St) (H : Hp) (m c : Nat) (ps : Nat → Nat) (na : Nat) (ak : Nat → Ask) (g lim : Nat) : Prop := Lay sh n z ∧ Run z ∧ HM z H m ∧ (z.1 337 36 = 0 ∧ z.1 337 45 = nI c ∧ c ≤ 40 ∧ ∀ k, k < c → z.1 397 k = nI (ps k) ∧ z.1 398 k = 0) ∧ RAs z na ak ∧ z.1 337 26 = nI g ∧ z.1 337 25 = nI lim ∧ g ≤ lim ∧ lim ≤ 20000
section
variable {F n : Nat} {sh : Nat → Nat × Nat} {z z' : St} {H : Hp} {m c : Nat} {ps : Nat → Nat} {na : Nat} {ak : Nat → Ask} {g lim : Nat}
/-- an argument is made and pushed -/
theorem RB.arg (h : RB sh n z H m c ps na ak g lim) {k : Nat} {x y : Int64} (hk : k < 8) (hm : m < 24576) (hc : c < 40) : ∃ z1 z', fn_X15_make F sh n z 349 (nI k) x y = some (z1, nI m) ∧ fn_X18_push F sh n z1 337 (nI m) 0 = some (z', ()) ∧ RB sh n z' (upH H m (k, x, y, [])) (m + 1) (c + 1) (fun i => if i = c then m else ps i) na ak g lim ∧ FrR z z' := by
  obtain ⟨hL, hr, hM, ⟨f1, f2, f3, f4⟩, ha, g1, g2, g3, g4⟩ := h
  have mk := makeM_t (F := F) (k := k) (x := x) (y := y) hL hM.1 hm hk
  have fr1 : Fr 349 354 z (mmS z m (nI k) x y) := mm_fr
  have e337 : (mmS z m (nI k) x y).1 337 = z.1 337 ∧ (mmS z m (nI k) x y).2.1 337 = z.2.1 337 := fr1.2 337 (by omega)
  have L1 : Lay sh n (mmS z m (nI k) x y) := fr1.lay hL
  have r1 : Run (mmS z m (nI k) x y) := by unfold Run; rw [e337.1]; exact hr
  have s45 : (mmS z m (nI k) x y).1 337 45 = nI c := by rw [e337.1]; exact f2
  have pu := rpush_t (F := F) (v := nI m) (r := false) L1 r1 s45 (by omega)
  have hM1 := mm_H hM hm (x := x) (y := y) hk
  have key : ∀ j, j ≠ 397 → j ≠ 398 → j ≠ 337 → (puS (mmS z m (nI k) x y) c (nI m) false).1 j = (mmS z m (nI k) x y).1 j := fun j a b d => by funext i; simp [puS, si_1, a, b, d]
  have k337 : ∀ j, j ≠ 45 → (puS (mmS z m (nI k) x y) c (nI m) false).1 337 j = z.1 337 j := fun j hj => by rw [← e337.1]; simp [puS, si_1, hj]
  refine ⟨_, _, mk, pu, ⟨L1.of rfl, by unfold Run; rw [k337 27 (by decide)]; exact hr, hM1.fr (fun j a b => key j (by omega) (by omega) (by omega)) (fun _ _ _ => rfl), ⟨by rw [k337 36 (by decide)]; exact f1, by simp [puS, si_1], by omega, fun i hi => ?_⟩, ha.of (k337 29 (by decide)) (fun j a b => ⟨(key j (by omega) (by omega) (by omega)).trans (fr1.2 j (by omega)).1, (fr1.2 j (by omega)).2⟩), by rw [k337 26 (by decide)]; exact g1, by rw [k337 25 (by decide)]; exact g2, g3, g4⟩, (tr_frR fr1).trans fr_pu⟩
  by_cases ci : i = c
  · subst ci
    simp only [if_true]
    exact ⟨by simp [puS, si_1], by simp [puS, si_1]; rfl⟩
  · simp only [if_neg ci]
    obtain ⟨y1, y2⟩ := f4 i (by omega)
    have a1 : (puS (mmS z m (nI k) x y) c (nI m) false).1 397 i = (mmS z m (nI k) x y).1 397 i := by simp [puS, si_1, ci]
    have a2 : (puS (mmS z m (nI k) x y) c (nI m) false).1 398 i = (mmS z m (nI k) x y).1 398 i := by simp [puS, si_1, ci]
    rw [a1, a2, (fr1.2 397 (by omega)).1, (fr1.2 398 (by omega)).1]
    exact ⟨y1, y2⟩
/-- the first frame -/
theorem RB.enter (hF : 300 ≤ F) (h : RB sh n z H m c ps na ak g lim) {u f : Nat} (ts : Nat → Nat) : ∃ z', fn_X18_enter F sh n z 337 (nI u) (nI f) (nI c) = some (z', ()) ∧ RM sh n z' H m (fun _ => ((u, f, 0), (fun k => if k < c then some (ps k, 0, ts k, 0, false) else none), (0, fun _ => (0, 0, 0, 0, false)), fun _ => none)) 1 na ak g lim ∧ FrR z z' := by
  obtain ⟨hL, hr, hM, ⟨f1, f2, f3, f4⟩, ha, g1, g2, g3, g4⟩ := h
  let z1 : St := si (si (si (si z 337 36 (nI 1)) 391 0 (nI u)) 392 0 (nI f)) 393 0 0
  have hL1 : Lay sh n z1 := hL.of rfl
  have z36 : z1.1 337 36 = nI (0 + 1) := by simp [z1, si_1]
  obtain ⟨z2, p1, p2, p3, p4⟩ := enterA (F := F) (sh := sh) (n := n) (d := 0) (x2 := nI c) (v2 := nI 0) (by omega) 40 0 F z1 (by omega) (by omega) hL1 z36
  have hL2 : Lay sh n z2 := hL1.of (by rw [p2])
  have e337 : z2.1 337 = z1.1 337 := p3 337 (by decide)
  have z45 : z2.1 337 45 = nI c := by rw [e337]; simp [z1, si_1]; exact f2
  have r398 : ∀ i, i < c → z2.1 397 (c - c + i) = nI (ps i) ∧ z2.1 398 (c - c + i) = bI false := fun i hi => by
    rw [Nat.sub_self, Nat.zero_add, p3 397 (by decide), p3 398 (by decide)]
    simp [z1, si_1]
    exact f4 i hi
  obtain ⟨z3, q1, q2, q3, q4, q5, q6, q7, q8, q9⟩ := enterB (F := F) (d := 0) (c := c) (hh := c) (by omega) (by omega) (by omega) (by omega) c 0 F z2 (by omega) (by omega) hL2 (by rw [e337]; exact z36) z45 (fun i hi => ⟨_, (r398 i hi).2⟩)
  rw [Nat.sub_self] at q5 q7
  have k0 : ∀ k, k ≠ 395 → k ≠ 396 → k ≠ 394 → k ≠ 337 → k ≠ 391 → k ≠ 392 → k ≠ 393 → z3.1 k = z.1 k := fun k x1 x2 x3 x4 x5 x6 x7 => by
    rw [q3 k x1 x2 x3 x4, p3 k x1]
    funext j; simp [z1, si_1, x4, x5, x6, x7]
  have k337 : ∀ j, j ≠ 45 → j ≠ 36 → z3.1 337 j = z.1 337 j := fun j x1 x2 => by
    rw [q4 j x1, e337]; simp [z1, si_1, x2]
  have k3 : z3.2 = z.2 := q2.trans (p2.trans rfl)
  have krow : ∀ k, 391 ≤ k → k ≤ 393 → z3.1 k = z1.1 k := fun k x1 x2 => by rw [q3 k (by omega) (by omega) (by omega) (by omega), p3 k (by omega)]
  refine ⟨z3, ?_, ⟨hL2.of (by rw [q2]), by unfold Run; rw [k337 27 (by decide) (by decide)]; exact hr, hM.fr (fun k x1 x2 => k0 k (by omega) (by omega) (by omega) (by omega) (by omega) (by omega) (by omega)) (fun k _ _ => by rw [k3]), ⟨?_, by omega, by omega, ?_, fun d hd => ?_⟩, ha.of (k337 29 (by decide) (by decide)) (fun k x1 x2 => ⟨k0 k (by omega) (by omega) (by omega) (by omega) (by omega) (by omega) (by omega), by rw [k3]⟩), by rw [k337 26 (by decide) (by decide)]; exact g1, by rw [k337 25 (by decide) (by decide)]; exact g2, g3, g4⟩, ⟨by rw [k3], fun k k1 k2 => ⟨k0 k (fun e => k2 (by rw [e]; right; right; omega)) (fun e => k2 (by rw [e]; right; right; omega)) (fun e => k2 (by rw [e]; right; right; omega)) k1 (fun e => k2 (by rw [e]; right; right; omega)) (fun e => k2 (by rw [e]; right; right; omega)) (fun e => k2 (by rw [e]; right; right; omega)), by rw [k3]⟩, fun j hj => ⟨k337 j (fun e => hj (by rw [e]; simp [mfl])) (fun e => hj (by rw [e]; simp [mfl])), by rw [k3]⟩⟩⟩
  · have o0 : ∀ k, 391 ≤ k → k ≤ 393 → shF k = (101, 32) → okA sh n k 101 (nI 0) = true := fun k k1 k2 e => by rw [lay_a hL k 101 32 (by omega) e]; exact okI_nI (by omega) (by omega)
    have fe : fn_X18_enter F sh n z 337 (nI u) (nI f) (nI c) = fn_X18_enter_L43 F sh n (nI c) 337 (nI 0) F z1 (nI 0) := by
      have bn : okI (nI 0) 32 = true := okI_nI (by omega) (by omega)
      have cn : (nI 0).toNatClampNeg = 0 := nI_clamp (by omega)
      unfold fn_X18_enter
      rw [show z.1 337 36 = nI 0 from f1]
      simp only [b_model hL, grd_true, lt_t, nI_1, si_3, lnk_s, bn, cn]
      rfl
    rw [fe]
    exact p1.trans q1
  · rw [q4 36 (by decide), e337]; exact z36
  · rw [q5]; rfl
  · have d0 : d = 0 := by omega
    subst d0
    unfold RFd
    refine ⟨by simp, by rw [krow 391 (by omega) (by omega)]; simp [z1, si_1], by rw [krow 392 (by omega) (by omega)]; simp [z1, si_1], by rw [krow 393 (by omega) (by omega)]; simp [z1, si_1]; rfl, q7, fun k hk => absurd hk (by simp), fun k s hk => ?_⟩
    simp only at hk
    by_cases ck : k < c
    · rw [if_pos ck] at hk; cases hk
      obtain ⟨w1, w2⟩ := q9 k (by omega) ck
      obtain ⟨v1, v2⟩ := r398 k ck
      exact ⟨by omega, by rw [w1, v1], by rw [w2, v2]; rfl⟩
    · rw [if_neg ck] at hk; exact absurd hk (by simp)
end
