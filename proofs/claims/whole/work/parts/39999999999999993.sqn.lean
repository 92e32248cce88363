/-! A MODULE AS BYTES: a picture that was read is sound -/
section
variable {b : Nat → Nat} {len : Nat}
theorem pF_p {tot p : Nat} {q : GP × Nat} (h : pF b len tot p = .ok q) : GpP b len q.1 := by
  unfold pF at h
  cases a1 : rN b len 0 7 p with
  | error x => rw [a1] at h; cases h
  | ok x =>
    rw [a1, ok_bq] at h
    cases a2 : pLs b len none 8 x.2 with
    | error y => rw [a2] at h; cases h
    | ok y =>
      rw [a2, ok_bq] at h
      cases a3 : pLs b len none 8 y.2 with
      | error v => rw [a3] at h; cases h
      | ok v =>
        rw [a3, ok_bq] at h
        cases a4 : pLs b len none 32 v.2 with
        | error u => rw [a4] at h; cases h
        | ok u =>
          rw [a4, ok_bq] at h
          cases a5 : sk len 2 u.2 with
          | error r => rw [a5] at h; cases h
          | ok r =>
            rw [a5, ok_bq] at h
            obtain ⟨m, hm⟩ : ∃ m, m = 256 * b u.2 + b (u.2 + 1) := ⟨_, rfl⟩
            rw [← hm] at h
            by_cases c : m < 1 ∨ 1024 < m ∨ 8192 < tot + m
            · rw [if_pos c] at h; cases h
            · rw [if_neg c] at h
              cases a6 : pIs b len m r.2 with
              | error w => rw [a6] at h; cases h
              | ok w =>
                rw [a6] at h; cases h
                obtain ⟨_, l2, l3, l4, l5⟩ := rN_le a1
                obtain ⟨g1, g2, g3⟩ := pLs_st (by omega) a2
                obtain ⟨f1, f2, f3⟩ := pLs_st (by omega) a3
                obtain ⟨k1, k2, k3⟩ := pLs_st (by omega) a4
                obtain ⟨i1, i2⟩ := pIs_p m a6
                rw [l5] at g1 g3
                rw [g3] at f1 f3
                rw [f3] at k1
                exact ⟨l4, l3.symm, l2, ⟨g1, g2⟩, ⟨f1, f2⟩, k1, ⟨by show 1 ≤ w.1.length; omega, by show w.1.length ≤ 1024; omega⟩, i2⟩
theorem pFs_p : ∀ (k : Nat) {gs : List GP} {p : Nat} {q : List GP × Nat}, pFs b len k gs p = .ok q → (∀ g, g ∈ gs → GpP b len g) → ∀ g, g ∈ q.1 → GpP b len g := by
  intro k
  induction k with
  | zero => intro gs p q h hg; unfold pFs at h; cases h; exact hg
  | succ k ih =>
    intro gs p q h hg
    unfold pFs at h
    cases e : pF b len (allC gs).length p with
    | error x => rw [e] at h; cases h
    | ok x =>
      rw [e, ok_bq] at h
      refine ih h (fun g hg' => ?_)
      rcases List.mem_append.mp hg' with r | r
      · exact hg g r
      · have : g = x.1 := by simpa using r
        rw [this]; exact pF_p e
theorem pAll_p {q : MP × Nat} (h : pAll b len = .ok q) : PicOk b len q.1 ∧ 6 ≤ len := by
  unfold pAll at h
  cases a1 : pHd b len 4 0 with
  | error x => rw [a1] at h; cases h
  | ok x =>
    rw [a1, ok_bq] at h
    have hx : x.2 = 4 := by
      have key : ∀ k p {x : Unit × Nat}, pHd b len k p = .ok x → x.2 = p + k := by
        intro k
        induction k with
        | zero => intro p x h; unfold pHd at h; cases h; rfl
        | succ k ih =>
          intro p x h
          unfold pHd at h
          cases e : rBy b len p with
          | error y => rw [e] at h; cases h
          | ok y =>
            obtain ⟨e1, e2⟩ := rBy_ok e
            subst e2
            rw [e, ok_bq] at h
            have h' : (if b p ≠ hdB p then .error (1, p) else pHd b len k (p + 1) : Ex (Unit × Nat)) = .ok x := h
            by_cases c : b p ≠ hdB p
            · rw [if_pos c] at h'; cases h'
            · rw [if_neg c] at h'
              have := ih (p + 1) h'
              omega
      have := key 4 0 a1
      omega
    cases a2 : sk len 2 x.2 with
    | error y => rw [a2] at h; cases h
    | ok y =>
      rw [a2, ok_bq] at h
      obtain ⟨s1, s2⟩ := sk_ok a2
      unfold q1 at h
      cases b1 : rN b len 0 32 y.2 with
      | error u => rw [b1] at h; cases h
      | ok u =>
        rw [b1, ok_bq] at h
        cases b2 : pSs b len u.1 u.2 with
        | error v => rw [b2] at h; cases h
        | ok v =>
          rw [b2, ok_bq] at h
          unfold q2 at h
          cases c1 : rN b len 0 32 v.2 with
          | error u => rw [c1] at h; cases h
          | ok u2 =>
            rw [c1, ok_bq] at h
            cases c2 : pFos b len u2.1 u2.2 with
            | error w => rw [c2] at h; cases h
            | ok v2 =>
              rw [c2, ok_bq] at h
              unfold q3 at h
              cases d1 : rN b len 0 32 v2.2 with
              | error u => rw [d1] at h; cases h
              | ok u3 =>
                rw [d1, ok_bq] at h
                cases d2 : pCs b len u3.1 u3.2 with
                | error w => rw [d2] at h; cases h
                | ok v3 =>
                  rw [d2, ok_bq] at h
                  unfold q4 at h
                  cases e1 : rN b len 0 32 v3.2 with
                  | error u => rw [e1] at h; cases h
                  | ok u4 =>
                    rw [e1, ok_bq] at h
                    cases e2 : pEs b len u4.1 u4.2 with
                    | error w => rw [e2] at h; cases h
                    | ok v4 =>
                      rw [e2, ok_bq] at h
                      unfold q5 at h
                      cases f1 : rN b len 0 64 v4.2 with
                      | error u => rw [f1] at h; cases h
                      | ok u5 =>
                        rw [f1, ok_bq] at h
                        cases f2 : pFs b len u5.1 [] u5.2 with
                        | error w => rw [f2] at h; cases h
                        | ok v5 =>
                          rw [f2, ok_bq] at h
                          by_cases c : v5.2 < len
                          · rw [if_pos c] at h; cases h
                          · rw [if_neg c] at h
                            cases h
                            have m1 := (rN_le b1).2.1
                            have m2 := (rN_le c1).2.1
                            have m3 := (rN_le d1).2.1
                            have m4 := (rN_le e1).2.1
                            have m5 := (rN_le f1).2.1
                            have n1 := pSs_len u.1 b2
                            have n2 := pFos_len u2.1 c2
                            have n3 := pCs_len u3.1 d2
                            have n4 := pEs_len u4.1 e2
                            have n5 := pFs_len u5.1 f2
                            have n5' : v5.1.length = u5.1 := by rw [n5]; simp
                            refine ⟨⟨⟨by show v.1.length ≤ 32; omega, pSs_p u.1 b2⟩, ⟨by show v2.1.length ≤ 32; omega, pFos_p u2.1 c2⟩, ⟨by show v3.1.length ≤ 32; omega, pCs_p u3.1 d2⟩, ⟨by show v4.1.length ≤ 32; omega, pEs_p u4.1 e2⟩, by show v5.1.length ≤ 64; omega, pFs_p u5.1 f2 (fun g hg => by cases hg)⟩, by omega⟩
end
