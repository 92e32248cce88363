/-! A MODULE AS BYTES: how many instructions there are; THE REFERENCE'S UNIT: UnI -/
section
variable {b : Nat → Nat} {len : Nat}
theorem pIs_le : ∀ (k : Nat) {p : Nat} {q : List Nat × Nat}, p ≤ len → pIs b len k p = .ok q → p + q.1.length ≤ q.2 ∧ q.2 ≤ len := by
  intro k
  induction k with
  | zero => intro p q hp h; unfold pIs at h; cases h; exact ⟨Nat.le_refl _, hp⟩
  | succ k ih =>
    intro p q hp h
    unfold pIs at h
    cases e : pI1 b len p with
    | error x => rw [e] at h; cases h
    | ok x =>
      rw [e, ok_bq] at h
      obtain ⟨i1, i2, _⟩ := pI1_ok e
      cases e2 : pIs b len k x.2 with
      | error y => rw [e2] at h; cases h
      | ok y =>
        rw [e2] at h; cases h
        obtain ⟨j1, j2⟩ := ih i2 e2
        exact ⟨by show p + (y.1.length + 1) ≤ y.2; omega, j2⟩
theorem pF_le {tot p : Nat} {q : GP × Nat} (h : pF b len tot p = .ok q) : p + q.1.2.2.2.2.2.length ≤ q.2 ∧ q.2 ≤ len := by
  unfold pF at h
  cases a1 : rN b len 0 7 p with
  | error x => rw [a1] at h; cases h
  | ok x =>
    rw [a1, ok_bq] at h
    cases a2 : pLs b len none 8 x.2 with
    | error y => rw [a2] at h; cases h
    | ok y =>
      rw [a2, ok_bq] at h
      cases a3 : pLs b len none 8 y.2 with
      | error v => rw [a3] at h; cases h
      | ok v =>
        rw [a3, ok_bq] at h
        cases a4 : pLs b len none 32 v.2 with
        | error u => rw [a4] at h; cases h
        | ok u =>
          rw [a4, ok_bq] at h
          cases a5 : sk len 2 u.2 with
          | error r => rw [a5] at h; cases h
          | ok r =>
            rw [a5, ok_bq] at h
            obtain ⟨m, hm⟩ : ∃ m, m = 256 * b u.2 + b (u.2 + 1) := ⟨_, rfl⟩
            rw [← hm] at h
            by_cases c : m < 1 ∨ 1024 < m ∨ 8192 < tot + m
            · rw [if_pos c] at h; cases h
            · rw [if_neg c] at h
              obtain ⟨k1, k2⟩ := sk_ok a5
              cases a6 : pIs b len m r.2 with
              | error w => rw [a6] at h; cases h
              | ok w =>
                rw [a6] at h; cases h
                obtain ⟨i1, i2⟩ := pIs_le m (by omega) a6
                obtain ⟨_, _, _, _, n1⟩ := rN_le a1
                have n2 := (pLs_le a2).1
                have n3 := (pLs_le a3).1
                have n4 := (pLs_le a4).1
                exact ⟨by show p + w.1.length ≤ w.2; omega, i2⟩
theorem pFs_le : ∀ (k : Nat) {gs : List GP} {p : Nat} {q : List GP × Nat}, p ≤ len → (allC gs).length ≤ p → pFs b len k gs p = .ok q → (allC q.1).length ≤ q.2 ∧ q.2 ≤ len := by
  intro k
  induction k with
  | zero => intro gs p q hp ha h; unfold pFs at h; cases h; exact ⟨ha, hp⟩
  | succ k ih =>
    intro gs p q hp ha h
    unfold pFs at h
    cases e : pF b len (allC gs).length p with
    | error x => rw [e] at h; cases h
    | ok x =>
      rw [e, ok_bq] at h
      obtain ⟨l1, l2⟩ := pF_le e
      exact ih l2 (by rw [allC_a, List.length_append]; omega) h
theorem pAll_a {q : MP × Nat} (h : pAll b len = .ok q) : (allC q.1.2.2.2.2).length ≤ len := by
  unfold pAll at h
  cases a1 : pHd b len 4 0 with
  | error x => rw [a1] at h; cases h
  | ok x =>
    rw [a1, ok_bq] at h
    cases a2 : sk len 2 x.2 with
    | error y => rw [a2] at h; cases h
    | ok y =>
      rw [a2, ok_bq] at h
      unfold q1 at h
      cases b1 : rN b len 0 32 y.2 with
      | error u => rw [b1] at h; cases h
      | ok u =>
        rw [b1, ok_bq] at h
        cases b2 : pSs b len u.1 u.2 with
        | error v => rw [b2] at h; cases h
        | ok v =>
          rw [b2, ok_bq] at h
          unfold q2 at h
          cases c1 : rN b len 0 32 v.2 with
          | error u => rw [c1] at h; cases h
          | ok u2 =>
            rw [c1, ok_bq] at h
            cases c2 : pFos b len u2.1 u2.2 with
            | error w => rw [c2] at h; cases h
            | ok v2 =>
              rw [c2, ok_bq] at h
              unfold q3 at h
              cases d1 : rN b len 0 32 v2.2 with
              | error u => rw [d1] at h; cases h
              | ok u3 =>
                rw [d1, ok_bq] at h
                cases d2 : pCs b len u3.1 u3.2 with
                | error w => rw [d2] at h; cases h
                | ok v3 =>
                  rw [d2, ok_bq] at h
                  unfold q4 at h
                  cases e1 : rN b len 0 32 v3.2 with
                  | error u => rw [e1] at h; cases h
                  | ok u4 =>
                    rw [e1, ok_bq] at h
                    cases e2 : pEs b len u4.1 u4.2 with
                    | error w => rw [e2] at h; cases h
                    | ok v4 =>
                      rw [e2, ok_bq] at h
                      unfold q5 at h
                      cases f1 : rN b len 0 64 v4.2 with
                      | error u => rw [f1] at h; cases h
                      | ok u5 =>
                        rw [f1, ok_bq] at h
                        cases f2 : pFs b len u5.1 [] u5.2 with
                        | error w => rw [f2] at h; cases h
                        | ok v5 =>
                          rw [f2, ok_bq] at h
                          by_cases c : v5.2 < len
                          · rw [if_pos c] at h; cases h
                          · rw [if_neg c] at h
                            cases h
                            obtain ⟨_, _, _, l4, l5⟩ := rN_le f1
                            obtain ⟨j1, j2⟩ := pFs_le u5.1 (by omega) (by unfold allC; simp) f2
                            show (allC v5.1).length ≤ len
                            omega
end
theorem offC_s (gs : List GP) {f : Nat} (hf : f < gs.length) : offC gs (f + 1) = offC gs f + (gs.getD f dGP).2.2.2.2.2.length ∧ offC gs (f + 1) ≤ (allC gs).length ∧ ∀ i, i < (gs.getD f dGP).2.2.2.2.2.length → (allC gs).getD (offC gs f + i) 0 = (gs.getD f dGP).2.2.2.2.2.getD i 0 := by
  have e1 : gs.take (f + 1) = gs.take f ++ [gs.getD f dGP] := by
    rw [List.take_succ, List.getElem?_eq_getElem hf, List.getD_eq_getElem?_getD, List.getElem?_eq_getElem hf]; rfl
  have e2 : allC (gs.take (f + 1)) = allC (gs.take f) ++ (gs.getD f dGP).2.2.2.2.2 := by rw [e1, allC_a]
  have e3 : allC gs = allC (gs.take (f + 1)) ++ allC (gs.drop (f + 1)) := by
    unfold allC
    rw [← List.flatten_append, ← List.map_append, List.take_append_drop]
  refine ⟨by unfold offC; rw [e2, List.length_append], by unfold offC; rw [e3, List.length_append]; omega, fun i hi => ?_⟩
  rw [e3, e2]
  unfold offC
  rw [List.getD_eq_getElem?_getD, List.getElem?_append_left (by rw [List.length_append]; omega), List.getElem?_append_right (by omega), show (allC (gs.take f)).length + i - (allC (gs.take f)).length = i by omega, ← List.getD_eq_getElem?_getD]
