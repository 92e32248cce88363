/-! THE REFERENCE'S UNIT: all of a module, stage by stage -/
section
variable {F n : Nat} {sh : Nat → Nat × Nat} {z z' : St} {ku len p w q : Nat} {b : Nat → Nat}
theorem pEs_len : ∀ (k : Nat) {p : Nat} {q : List (Nat × Ty) × Nat}, pEs b len k p = .ok q → q.1.length = k := by
  intro k
  induction k with
  | zero => intro p q h; unfold pEs at h; cases h; rfl
  | succ k ih =>
    intro p q h
    unfold pEs at h
    cases e : rT b len none false p with
    | error x => rw [e] at h; cases h
    | ok x =>
      rw [e, ok_bq] at h
      cases e2 : pEs b len k x.2 with
      | error y => rw [e2] at h; cases h
      | ok y => rw [e2] at h; cases h; show y.1.length + 1 = k + 1; rw [ih e2]
theorem pCs_len : ∀ (k : Nat) {p : Nat} {q : List CP × Nat}, pCs b len k p = .ok q → q.1.length = k := by
  intro k
  induction k with
  | zero => intro p q h; unfold pCs at h; cases h; rfl
  | succ k ih =>
    intro p q h
    unfold pCs at h
    cases e : pCa b len p with
    | error x => rw [e] at h; cases h
    | ok x =>
      rw [e, ok_bq] at h
      cases e2 : pCs b len k x.2 with
      | error y => rw [e2] at h; cases h
      | ok y => rw [e2] at h; cases h; show y.1.length + 1 = k + 1; rw [ih e2]
theorem pFos_len : ∀ (k : Nat) {p : Nat} {q : List Nat × Nat}, pFos b len k p = .ok q → q.1.length = k := by
  intro k
  induction k with
  | zero => intro p q h; unfold pFos at h; cases h; rfl
  | succ k ih =>
    intro p q h
    unfold pFos at h
    cases e : pFo b len p with
    | error x => rw [e] at h; cases h
    | ok x =>
      rw [e, ok_bq] at h
      cases e2 : pFos b len k x.2 with
      | error y => rw [e2] at h; cases h
      | ok y => rw [e2] at h; cases h; show y.1.length + 1 = k + 1; rw [ih e2]
theorem pSs_len : ∀ (k : Nat) {p : Nat} {q : List SP × Nat}, pSs b len k p = .ok q → q.1.length = k := by
  intro k
  induction k with
  | zero => intro p q h; unfold pSs at h; cases h; rfl
  | succ k ih =>
    intro p q h
    unfold pSs at h
    cases e : pSt b len p with
    | error x => rw [e] at h; cases h
    | ok x =>
      rw [e, ok_bq] at h
      cases e2 : pSs b len k x.2 with
      | error y => rw [e2] at h; cases h
      | ok y => rw [e2] at h; cases h; show y.1.length + 1 = k + 1; rw [ih e2]
theorem US.b385 (hF : 1100 ≤ F) (h : US sh n z ku b len p) (e10 : z.1 ku 10 = nI 0) : ∃ z', fn_X16_overAll_B385 F sh n ku z = some (z', ()) ∧ UP sh n z' ku b len (q4 b len p) ∧ (∀ q, q4 b len p = .ok q → (z'.1 ku 8 = nI q.1.1.length ∧ TEl z' ku 0 q.1.1 ∧ z'.1 ku 9 = nI q.1.2.length ∧ TI z' ku (allC q.1.2) ∧ TFn z' ku q.1.2) ∧ FrOw ku [ku + 4, ku + 5, ku + 6, ku + 7] [2, 3, 4, 8, 9, 10] z z') ∧ FrM ku z z' := by
  obtain ⟨z1, s1, s2, s3⟩ := h.count (F := F) (lo := 0) (hi := 32) (by omega) (by omega)
  have s1' : fn_X16_count F sh n z ku 0 32 = some (z1, nI (vN (rN b len 0 32 p))) := s1
  unfold fn_X16_overAll_B385 q4
  rw [h.good, cal_s, if_neg (by decide), s1', cal_s]
  cases a1 : rN b len 0 32 p with
  | error x =>
    rw [a1] at s2
    obtain ⟨z2, t1, t2, t3⟩ := UF.e404 (F := F) (by omega) s2 (nI (vN (.error x : Ex (Nat × Nat))))
    exact ⟨z2, t1, t2, (fun q y => by cases y), s3.m.trans t3.m⟩
  | ok x =>
    rw [a1] at s2
    obtain ⟨l1, l2, _⟩ := rN_le a1
    have f0 : FrOw ku [] [8] z1 (si z1 ku 8 (nI x.1)) := FrOw.si (.inl ⟨rfl, by simp⟩)
    have h0 : US sh n (si z1 ku 8 (nI x.1)) ku b len x.2 := US.frw (z := z1) s2 f0 (by simp) (by simp)
    obtain ⟨z2, v1, v2, v3⟩ := US.els (F := F) hF (m := x.1) l2 x.1 0 F (si z1 ku 8 (nI x.1)) x.2 (by omega) (by omega) si_ss h0
    have fm : FrM ku z z2 := (s3.m.trans (f0.mono (by simp) (fun j hj => by simp at hj ⊢; omega))).trans (v2.mono (fun k hk => by simp at hk ⊢; omega) (fun j hj => by simp at hj ⊢; omega))
    unfold fn_X16_overAll_B404
    rw [lt_t, ok_bq]
    show ∃ z', fn_X16_overAll_L409 F sh n ku F (si z1 ku 8 (nI x.1)) 0 = some (z', ()) ∧ _
    cases a2 : pEs b len x.1 x.2 with
    | error y =>
      rw [a2] at v1
      exact ⟨z2, v1.1, v1.2, (fun q y => by cases y), fm⟩
    | ok y =>
      rw [a2] at v1
      obtain ⟨w1, w2, w3, w4⟩ := v1
      have w1' : fn_X16_overAll_L409 F sh n ku F (si z1 ku 8 (nI x.1)) 0 = fn_X16_overAll_B445 F sh n ku z2 := w1
      have yl := pEs_len x.1 a2
      have fv := v3 ⟨y, a2⟩
      have e9 : z2.1 ku 8 = nI y.1.length := by rw [fv.2.2 8 (by simp), si_ss, yl]
      have keep : ∀ j, j ≠ 2 → j ≠ 3 → j ≠ 4 → j ≠ 8 → z2.1 ku j = z.1 ku j := fun j a b c d => by rw [fv.2.2 j (by simp; omega), si_oj d, s3.2.2 j a b c]
      have fz : FrOw ku [ku + 4] [2, 3, 4, 8] z z2 := ((s3.w (by simp)).trans (f0.mono (by simp) (fun j hj => by simp at hj ⊢; omega))).trans (fv.mono (fun _ h => h) (fun j hj => by simp at hj ⊢; omega))
      obtain ⟨z3, g1, g2, g3, g4⟩ := US.b445 (F := F) hF w2 (by rw [keep 10 (by omega) (by omega) (by omega) (by omega)]; exact e10)
      rw [w1', g1, ok_bq]
      refine ⟨z3, rfl, ?_, fun q r => ?_, fm.trans g4⟩
      · cases a3 : q5 b len y.2 with
        | error u => rw [a3] at g2; exact g2
        | ok u => rw [a3] at g2; exact g2
      · cases a3 : q5 b len y.2 with
        | error u => rw [a3] at r; cases r
        | ok u =>
          rw [a3] at r; cases r
          obtain ⟨g5, g6, g7, gz⟩ := g3 u a3
          have gf : FrOw ku [ku + 4, ku + 5, ku + 6, ku + 7] [2, 3, 4, 8, 9, 10] z z3 := (fz.mono (fun k hk => by simp at hk ⊢; omega) (fun j hj => by simp at hj ⊢; omega)).trans (gz.mono (fun k hk => by simp at hk ⊢; omega) (fun j hj => by simp at hj ⊢; omega))
          exact ⟨⟨by rw [gz.2.2 8 (by simp)]; exact e9, fun k hk => by rw [gz.2.1 (ku + 4) (by omega) (by simp)]; exact w3 k hk, g5, g6, g7⟩, gf⟩
theorem US.b281 (hF : 1100 ≤ F) (h : US sh n z ku b len p) (e10 : z.1 ku 10 = nI 0) : ∃ z', fn_X16_overAll_B281 F sh n ku z = some (z', ()) ∧ UP sh n z' ku b len (q3 b len p) ∧ (∀ q, q3 b len p = .ok q → (z'.1 ku 7 = nI q.1.1.length ∧ TCa z' ku 0 q.1.1 ∧ z'.1 ku 8 = nI q.1.2.1.length ∧ TEl z' ku 0 q.1.2.1 ∧ z'.1 ku 9 = nI q.1.2.2.length ∧ TI z' ku (allC q.1.2.2) ∧ TFn z' ku q.1.2.2) ∧ FrOw ku [ku + 3, ku + 4, ku + 5, ku + 6, ku + 7] [2, 3, 4, 7, 8, 9, 10] z z') ∧ FrM ku z z' := by
  obtain ⟨z1, s1, s2, s3⟩ := h.count (F := F) (lo := 0) (hi := 32) (by omega) (by omega)
  have s1' : fn_X16_count F sh n z ku 0 32 = some (z1, nI (vN (rN b len 0 32 p))) := s1
  unfold fn_X16_overAll_B281 q3
  rw [h.good, cal_s, if_neg (by decide), s1', cal_s]
  cases a1 : rN b len 0 32 p with
  | error x =>
    rw [a1] at s2
    obtain ⟨z2, t1, t2, t3⟩ := UF.e300 (F := F) (by omega) s2 (nI (vN (.error x : Ex (Nat × Nat))))
    exact ⟨z2, t1, t2, (fun q y => by cases y), s3.m.trans t3.m⟩
  | ok x =>
    rw [a1] at s2
    obtain ⟨l1, l2, _⟩ := rN_le a1
    have f0 : FrOw ku [] [7] z1 (si z1 ku 7 (nI x.1)) := FrOw.si (.inl ⟨rfl, by simp⟩)
    have h0 : US sh n (si z1 ku 7 (nI x.1)) ku b len x.2 := US.frw (z := z1) s2 f0 (by simp) (by simp)
    obtain ⟨z2, v1, v2, v3⟩ := US.cas (F := F) hF (m := x.1) l2 x.1 0 F (si z1 ku 7 (nI x.1)) x.2 (by omega) (by omega) si_ss h0
    have fm : FrM ku z z2 := (s3.m.trans (f0.mono (by simp) (fun j hj => by simp at hj ⊢; omega))).trans (v2.mono (fun k hk => by simp at hk ⊢; omega) (fun j hj => by simp at hj ⊢; omega))
    unfold fn_X16_overAll_B300
    rw [lt_t, ok_bq]
    show ∃ z', fn_X16_overAll_L305 F sh n ku F (si z1 ku 7 (nI x.1)) 0 = some (z', ()) ∧ _
    cases a2 : pCs b len x.1 x.2 with
    | error y =>
      rw [a2] at v1
      exact ⟨z2, v1.1, v1.2, (fun q y => by cases y), fm⟩
    | ok y =>
      rw [a2] at v1
      obtain ⟨w1, w2, w3, w4⟩ := v1
      have w1' : fn_X16_overAll_L305 F sh n ku F (si z1 ku 7 (nI x.1)) 0 = fn_X16_overAll_B385 F sh n ku z2 := w1
      have yl := pCs_len x.1 a2
      have fv := v3 ⟨y, a2⟩
      have e9 : z2.1 ku 7 = nI y.1.length := by rw [fv.2.2 7 (by simp), si_ss, yl]
      have keep : ∀ j, j ≠ 2 → j ≠ 3 → j ≠ 4 → j ≠ 7 → z2.1 ku j = z.1 ku j := fun j a b c d => by rw [fv.2.2 j (by simp; omega), si_oj d, s3.2.2 j a b c]
      have fz : FrOw ku [ku + 3] [2, 3, 4, 7] z z2 := ((s3.w (by simp)).trans (f0.mono (by simp) (fun j hj => by simp at hj ⊢; omega))).trans (fv.mono (fun _ h => h) (fun j hj => by simp at hj ⊢; omega))
      obtain ⟨z3, g1, g2, g3, g4⟩ := US.b385 (F := F) hF w2 (by rw [keep 10 (by omega) (by omega) (by omega) (by omega)]; exact e10)
      rw [w1', g1, ok_bq]
      refine ⟨z3, rfl, ?_, fun q r => ?_, fm.trans g4⟩
      · cases a3 : q4 b len y.2 with
        | error u => rw [a3] at g2; exact g2
        | ok u => rw [a3] at g2; exact g2
      · cases a3 : q4 b len y.2 with
        | error u => rw [a3] at r; cases r
        | ok u =>
          rw [a3] at r; cases r
          obtain ⟨g5, gz⟩ := g3 u a3
          have gf : FrOw ku [ku + 3, ku + 4, ku + 5, ku + 6, ku + 7] [2, 3, 4, 7, 8, 9, 10] z z3 := (fz.mono (fun k hk => by simp at hk ⊢; omega) (fun j hj => by simp at hj ⊢; omega)).trans (gz.mono (fun k hk => by simp at hk ⊢; omega) (fun j hj => by simp at hj ⊢; omega))
          exact ⟨⟨by rw [gz.2.2 7 (by simp)]; exact e9, fun k hk => by rw [gz.2.1 (ku + 3) (by omega) (by simp)]; exact w3 k hk, g5⟩, gf⟩
end
