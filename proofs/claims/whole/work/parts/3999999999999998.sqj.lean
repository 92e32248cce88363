/-! THE REFERENCE'S UNIT: a module is passed over, as a whole -/
/-- the unit's tables hold a picture -/
def TMu (z : St) (ku : Nat) (M : MP) : Prop := z.1 ku 5 = nI M.1.length ∧ TSt z ku 0 M.1 ∧ z.1 ku 6 = nI M.2.1.length ∧ TFo z ku M.1.length M.2.1 ∧ z.1 ku 7 = nI M.2.2.1.length ∧ TCa z ku 0 M.2.2.1 ∧ z.1 ku 8 = nI M.2.2.2.1.length ∧ TEl z ku 0 M.2.2.2.1 ∧ z.1 ku 9 = nI M.2.2.2.2.length ∧ TI z ku (allC M.2.2.2.2) ∧ TFn z ku M.2.2.2.2
section
variable {F n : Nat} {sh : Nat → Nat × Nat} {z z' : St} {ku len p w q : Nat} {b : Nat → Nat}
theorem US.b200 (hF : 1100 ≤ F) (h : US sh n z ku b len p) {o : Nat} (ho : o ≤ 32) (e5 : z.1 ku 5 = nI o) (e10 : z.1 ku 10 = nI 0) : ∃ z', fn_X16_overAll_B200 F sh n ku z = some (z', ()) ∧ UP sh n z' ku b len (q2 b len p) ∧ (∀ q, q2 b len p = .ok q → (z'.1 ku 6 = nI q.1.1.length ∧ TFo z' ku o q.1.1 ∧ (∀ j, j < o → z'.1 (ku + 2) j = z.1 (ku + 2) j) ∧ z'.1 ku 7 = nI q.1.2.1.length ∧ TCa z' ku 0 q.1.2.1 ∧ z'.1 ku 8 = nI q.1.2.2.1.length ∧ TEl z' ku 0 q.1.2.2.1 ∧ z'.1 ku 9 = nI q.1.2.2.2.length ∧ TI z' ku (allC q.1.2.2.2) ∧ TFn z' ku q.1.2.2.2) ∧ z'.1 ku 5 = nI o) ∧ FrM ku z z' := by
  obtain ⟨z1, s1, s2, s3⟩ := h.count (F := F) (lo := 0) (hi := 32) (by omega) (by omega)
  have s1' : fn_X16_count F sh n z ku 0 32 = some (z1, nI (vN (rN b len 0 32 p))) := s1
  unfold fn_X16_overAll_B200 q2
  rw [h.good, cal_s, if_neg (by decide), s1', cal_s]
  cases a1 : rN b len 0 32 p with
  | error x =>
    rw [a1] at s2
    obtain ⟨z2, t1, t2, t3⟩ := UF.e219 (F := F) (by omega) s2 (nI (vN (.error x : Ex (Nat × Nat))))
    exact ⟨z2, t1, t2, (fun q y => by cases y), s3.m.trans t3.m⟩
  | ok x =>
    rw [a1] at s2
    obtain ⟨l1, l2, _⟩ := rN_le a1
    have f0 : FrOw ku [] [6] z1 (si z1 ku 6 (nI x.1)) := FrOw.si (.inl ⟨rfl, by simp⟩)
    have h0 : US sh n (si z1 ku 6 (nI x.1)) ku b len x.2 := US.frw (z := z1) s2 f0 (by simp) (by simp)
    obtain ⟨z2, v1, v2, v3⟩ := US.fos (F := F) hF (m := x.1) (o := o) l2 ho x.1 0 F (si z1 ku 6 (nI x.1)) x.2 (by omega) (by omega) si_ss (by rw [si_oj (by omega), s3.2.2 5 (by omega) (by omega) (by omega)]; exact e5) h0
    have fm : FrM ku z z2 := (s3.m.trans (f0.mono (by simp) (fun j hj => by simp at hj ⊢; omega))).trans (v2.mono (fun k hk => by simp at hk ⊢; omega) (fun j hj => by simp at hj ⊢; omega))
    unfold fn_X16_overAll_B219
    rw [lt_t, ok_bq]
    show ∃ z', fn_X16_overAll_L224 F sh n ku F (si z1 ku 6 (nI x.1)) 0 = some (z', ()) ∧ _
    cases a2 : pFos b len x.1 x.2 with
    | error y =>
      rw [a2] at v1
      exact ⟨z2, v1.1, v1.2, (fun q y => by cases y), fm⟩
    | ok y =>
      rw [a2] at v1
      obtain ⟨w1, w2, w3, w4⟩ := v1
      have w1' : fn_X16_overAll_L224 F sh n ku F (si z1 ku 6 (nI x.1)) 0 = fn_X16_overAll_B281 F sh n ku z2 := w1
      have yl := pFos_len x.1 a2
      have fv := v3 ⟨y, a2⟩
      have e9 : z2.1 ku 6 = nI y.1.length := by rw [fv.2.2 6 (by simp), si_ss, yl]
      have keep : ∀ j, j ≠ 2 → j ≠ 3 → j ≠ 4 → j ≠ 6 → z2.1 ku j = z.1 ku j := fun j a b c d => by rw [fv.2.2 j (by simp; omega), si_oj d, s3.2.2 j a b c]
      obtain ⟨z3, g1, g2, g3, g4⟩ := US.b281 (F := F) hF w2 (by rw [keep 10 (by omega) (by omega) (by omega) (by omega)]; exact e10)
      rw [w1', g1, ok_bq]
      refine ⟨z3, rfl, ?_, fun q r => ?_, fm.trans g4⟩
      · cases a3 : q3 b len y.2 with
        | error u => rw [a3] at g2; exact g2
        | ok u => rw [a3] at g2; exact g2
      · cases a3 : q3 b len y.2 with
        | error u => rw [a3] at r; cases r
        | ok u =>
          rw [a3] at r; cases r
          obtain ⟨g5, gz⟩ := g3 u a3
          refine ⟨⟨by rw [gz.2.2 6 (by simp)]; exact e9, fun k hk => by rw [gz.2.1 (ku + 2) (by omega) (by simp)]; exact w3 k hk, fun j hj => ?_, g5⟩, by rw [gz.2.2 5 (by simp), keep 5 (by omega) (by omega) (by omega) (by omega)]; exact e5⟩
          rw [gz.2.1 (ku + 2) (by omega) (by simp), w4 j (by omega), si_ok (by omega), s3.2.1 (ku + 2) (by omega)]
theorem US.b93 (hF : 1100 ≤ F) (h : US sh n z ku b len p) (e10 : z.1 ku 10 = nI 0) : ∃ z', fn_X16_overAll_B93 F sh n ku z = some (z', ()) ∧ UP sh n z' ku b len (q1 b len p) ∧ (∀ q, q1 b len p = .ok q → TMu z' ku q.1) ∧ FrM ku z z' := by
  obtain ⟨z1, s1, s2, s3⟩ := h.count (F := F) (lo := 0) (hi := 32) (by omega) (by omega)
  have s1' : fn_X16_count F sh n z ku 0 32 = some (z1, nI (vN (rN b len 0 32 p))) := s1
  unfold fn_X16_overAll_B93 q1
  rw [h.good, cal_s, if_neg (by decide), s1', cal_s]
  cases a1 : rN b len 0 32 p with
  | error x =>
    rw [a1] at s2
    obtain ⟨z2, t1, t2, t3⟩ := UF.e112 (F := F) (by omega) s2 (nI (vN (.error x : Ex (Nat × Nat))))
    exact ⟨z2, t1, t2, (fun q y => by cases y), s3.m.trans t3.m⟩
  | ok x =>
    rw [a1] at s2
    obtain ⟨l1, l2, _⟩ := rN_le a1
    have f0 : FrOw ku [] [5] z1 (si z1 ku 5 (nI x.1)) := FrOw.si (.inl ⟨rfl, by simp⟩)
    have h0 : US sh n (si z1 ku 5 (nI x.1)) ku b len x.2 := US.frw (z := z1) s2 f0 (by simp) (by simp)
    obtain ⟨z2, v1, v2, v3⟩ := US.sts (F := F) hF (m := x.1) l2 x.1 0 F (si z1 ku 5 (nI x.1)) x.2 (by omega) (by omega) si_ss h0
    have fm : FrM ku z z2 := (s3.m.trans (f0.mono (by simp) (fun j hj => by simp at hj ⊢; omega))).trans (v2.mono (fun k hk => by simp at hk ⊢; omega) (fun j hj => by simp at hj ⊢; omega))
    unfold fn_X16_overAll_B112
    rw [lt_t, ok_bq]
    show ∃ z', fn_X16_overAll_L117 F sh n ku F (si z1 ku 5 (nI x.1)) 0 = some (z', ()) ∧ _
    cases a2 : pSs b len x.1 x.2 with
    | error y =>
      rw [a2] at v1
      exact ⟨z2, v1.1, v1.2, (fun q y => by cases y), fm⟩
    | ok y =>
      rw [a2] at v1
      obtain ⟨w1, w2, w3, w4⟩ := v1
      have w1' : fn_X16_overAll_L117 F sh n ku F (si z1 ku 5 (nI x.1)) 0 = fn_X16_overAll_B200 F sh n ku z2 := w1
      have yl := pSs_len x.1 a2
      have fv := v3 ⟨y, a2⟩
      have e9 : z2.1 ku 5 = nI y.1.length := by rw [fv.2.2 5 (by simp), si_ss, yl]
      obtain ⟨z3, g1, g2, g3, g4⟩ := US.b200 (F := F) hF w2 (o := y.1.length) (by omega) e9 (by rw [fv.2.2 10 (by simp), si_oj (by omega), s3.2.2 10 (by omega) (by omega) (by omega)]; exact e10)
      rw [w1', g1, ok_bq]
      refine ⟨z3, rfl, ?_, fun q r => ?_, fm.trans g4⟩
      · cases a3 : q2 b len y.2 with
        | error u => rw [a3] at g2; exact g2
        | ok u => rw [a3] at g2; exact g2
      · cases a3 : q2 b len y.2 with
        | error u => rw [a3] at r; cases r
        | ok u =>
          rw [a3] at r; cases r
          obtain ⟨⟨g5, g6, g7, g8⟩, g9⟩ := g3 u a3
          exact ⟨g9, fun k hk => by rw [g7 (0 + k) (by rw [Nat.zero_add]; exact hk)]; exact w3 k hk, g5, g6, g8⟩
theorem US.overAll (hF : 1100 ≤ F) (h : US sh n z ku b len 0) (e10 : z.1 ku 10 = nI 0) : ∃ z', fn_X16_overAll F sh n z ku = some (z', ()) ∧ UP sh n z' ku b len (pAll b len) ∧ (∀ q, pAll b len = .ok q → TMu z' ku q.1) ∧ FrM ku z z' := by
  obtain ⟨z1, s1, s2, s3⟩ := US.hd (F := F) hF 4 0 F z (by omega) (by omega) h
  have m1 : FrM ku z z1 := s2.mono (by simp) (fun j hj => by simp at hj ⊢; omega)
  unfold fn_X16_overAll pAll
  show ∃ z', fn_X16_overAll_L2 F sh n ku F z (nI 0) = some (z', ()) ∧ _
  cases a1 : pHd b len 4 0 with
  | error x =>
    rw [a1] at s1
    exact ⟨z1, s1.1, s1.2, (fun q y => by cases y), m1⟩
  | ok x =>
    rw [a1] at s1
    obtain ⟨t1, t2, _⟩ := s1
    have f1 := s3 ⟨x, a1⟩
    obtain ⟨z2, v1, v2, v3⟩ := t2.over (F := F) (k := 2) (by omega)
    have v1' : fn_X16_over F sh n z1 ku 2 = some (z2, nI x.2) := v1
    rw [t1, ok_bq]
    unfold fn_X16_overAll_B80
    rw [t2.1.o, grd_true, t2.good, cal_s, if_neg (by decide), v1', cal_s]
    cases a2 : sk len 2 x.2 with
    | error y =>
      rw [a2] at v2
      obtain ⟨z3, g1, g2, g3⟩ := UF.e93 (F := F) (by omega) v2
      exact ⟨z3, g1, g2, (fun q y => by cases y), (m1.trans v3.m).trans g3.m⟩
    | ok y =>
      rw [a2] at v2
      have v2' : US sh n z2 ku b len y.2 := v2
      obtain ⟨z3, g1, g2, g3, g4⟩ := v2'.b93 (F := F) hF (by rw [v3.2.2 10 (by omega) (by omega) (by omega), f1.2.2 10 (by simp)]; exact e10)
      rw [g1, ok_bq]
      exact ⟨z3, rfl, g2, g3, (m1.trans v3.m).trans g4⟩
end
