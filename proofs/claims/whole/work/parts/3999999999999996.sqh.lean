/-! THE REFERENCE'S UNIT: all of a module is passed over -/
def q5 (b : Nat → Nat) (len p : Nat) : Ex (List GP × Nat) := rN b len 0 64 p >>= fun g => pFs b len g.1 [] g.2 >>= fun fs => if fs.2 < len then .error (6, fs.2) else .ok fs
def q4 (b : Nat → Nat) (len p : Nat) : Ex ((List (Nat × Ty) × List GP) × Nat) := rN b len 0 32 p >>= fun e => pEs b len e.1 e.2 >>= fun es => q5 b len es.2 >>= fun r => .ok ((es.1, r.1), r.2)
def q3 (b : Nat → Nat) (len p : Nat) : Ex ((List CP × List (Nat × Ty) × List GP) × Nat) := rN b len 0 32 p >>= fun e => pCs b len e.1 e.2 >>= fun es => q4 b len es.2 >>= fun r => .ok ((es.1, r.1), r.2)
def q2 (b : Nat → Nat) (len p : Nat) : Ex ((List Nat × List CP × List (Nat × Ty) × List GP) × Nat) := rN b len 0 32 p >>= fun e => pFos b len e.1 e.2 >>= fun es => q3 b len es.2 >>= fun r => .ok ((es.1, r.1), r.2)
/-- a module's picture: structures, foreign ones, foreign functions, elements, functions -/
abbrev MP : Type := List SP × List Nat × List CP × List (Nat × Ty) × List GP
def q1 (b : Nat → Nat) (len p : Nat) : Ex (MP × Nat) := rN b len 0 32 p >>= fun e => pSs b len e.1 e.2 >>= fun es => q2 b len es.2 >>= fun r => .ok ((es.1, r.1), r.2)
def pAll (b : Nat → Nat) (len : Nat) : Ex (MP × Nat) := pHd b len 4 0 >>= fun h => sk len 2 h.2 >>= fun s => q1 b len s.2
abbrev FrM (ku : Nat) (z z' : St) : Prop := FrOw ku [ku + 2, ku + 3, ku + 4, ku + 5, ku + 6, ku + 7] [2, 3, 4, 5, 6, 7, 8, 9, 10] z z'
section
variable {F n : Nat} {sh : Nat → Nat × Nat} {z z' : St} {ku len p w q : Nat} {b : Nat → Nat}
theorem FrE.m (f : FrE ku z z') : FrM ku z z' := f.mono (by simp) (fun j hj => by simp at hj ⊢; omega)
theorem FrCu.m (f : FrCu ku z z') : FrM ku z z' := f.w (by simp)
theorem pFs_len : ∀ (k : Nat) {gs : List GP} {p : Nat} {q : List GP × Nat}, pFs b len k gs p = .ok q → q.1.length = gs.length + k := by
  intro k
  induction k with
  | zero => intro gs p q h; unfold pFs at h; cases h; rfl
  | succ k ih =>
    intro gs p q h
    unfold pFs at h
    cases e : pF b len (allC gs).length p with
    | error x => rw [e] at h; cases h
    | ok x =>
      rw [e, ok_bq] at h
      have := ih h
      rw [List.length_append] at this
      have : q.1.length = gs.length + 1 + k := this
      omega
theorem US.b445 (hF : 1100 ≤ F) (h : US sh n z ku b len p) (e10 : z.1 ku 10 = nI 0) : ∃ z', fn_X16_overAll_B445 F sh n ku z = some (z', ()) ∧ UP sh n z' ku b len (q5 b len p) ∧ (∀ q, q5 b len p = .ok q → z'.1 ku 9 = nI q.1.length ∧ TI z' ku (allC q.1) ∧ TFn z' ku q.1 ∧ FrOw ku [ku + 5, ku + 6, ku + 7] [2, 3, 4, 9, 10] z z') ∧ FrM ku z z' := by
  obtain ⟨z1, s1, s2, s3⟩ := h.count (F := F) (lo := 0) (hi := 64) (by omega) (by omega)
  have s1' : fn_X16_count F sh n z ku 0 64 = some (z1, nI (vN (rN b len 0 64 p))) := s1
  unfold fn_X16_overAll_B445 q5
  rw [h.good, cal_s, if_neg (by decide), s1', cal_s]
  cases a1 : rN b len 0 64 p with
  | error x =>
    rw [a1] at s2
    obtain ⟨z2, t1, t2, t3⟩ := UF.e464 (F := F) (by omega) s2 (nI (vN (.error x : Ex (Nat × Nat))))
    exact ⟨z2, t1, t2, (fun q y => by cases y), s3.m.trans t3.m⟩
  | ok x =>
    rw [a1] at s2
    obtain ⟨l1, l2, _⟩ := rN_le a1
    have f0 : FrOw ku [] [9] z1 (si z1 ku 9 (nI x.1)) := FrOw.si (.inl ⟨rfl, by simp⟩)
    have h0 : US sh n (si z1 ku 9 (nI x.1)) ku b len x.2 := US.frw (z := z1) s2 f0 (by simp) (by simp)
    have T0 : TI (si z1 ku 9 (nI x.1)) ku (allC []) := ⟨by rw [si_oj (by omega), s3.2.2 10 (by omega) (by omega) (by omega)]; exact e10, fun j hj => absurd hj (by unfold allC; simp)⟩
    obtain ⟨z2, v1, v2⟩ := US.fns (F := F) hF (m := x.1) l2 x.1 F (si z1 ku 9 (nI x.1)) [] x.2 (by simp) (by omega) si_ss h0 T0 (by unfold allC; simp) (fun f hf => absurd hf (by simp))
    have fz : FrOw ku [ku + 5, ku + 6, ku + 7] [2, 3, 4, 9, 10] z z2 := ((s3.w (by simp)).trans (f0.mono (by simp) (fun j hj => by simp at hj ⊢; omega))).trans (v2.mono (fun _ h => h) (fun j hj => by simp at hj ⊢; omega))
    have fm : FrM ku z z2 := fz.mono (fun k hk => by simp at hk ⊢; omega) (fun j hj => by simp at hj ⊢; omega)
    unfold fn_X16_overAll_B464
    rw [lt_t, ok_bq]
    have v1' : StG sh n ku b len (fn_X16_overAll_L469 F sh n ku F (si z1 ku 9 (nI x.1)) 0) (fn_X16_overAll_B495 F sh n ku) z2 (fun gs' => TI z2 ku (allC gs') ∧ TFn z2 ku gs') (pFs b len x.1 [] x.2) := v1
    show ∃ z', fn_X16_overAll_L469 F sh n ku F (si z1 ku 9 (nI x.1)) 0 = some (z', ()) ∧ _
    cases a2 : pFs b len x.1 [] x.2 with
    | error y =>
      rw [a2] at v1'
      exact ⟨z2, v1'.1, v1'.2, (fun q y => by cases y), fm⟩
    | ok y =>
      rw [a2] at v1'
      obtain ⟨w1, w2, w3, w4⟩ := v1'
      have yl := pFs_len x.1 a2
      have e9 : z2.1 ku 9 = nI y.1.length := by rw [v2.2.2 9 (by simp), si_ss, yl]; simp
      have l8 := h.1.2.2.2.1
      have y8 := w2.2.2.1
      rw [w1, ok_bq]
      unfold fn_X16_overAll_B495
      rw [w2.good, cal_s, if_neg (by decide), w2.1.2.2.1, w2.2.1]
      by_cases c : y.2 < len
      · obtain ⟨z3, g1, g2, g3⟩ := w2.fail (F := F) (w := 6) (q := y.2) (by omega) (by omega)
        have g1' : fn_X16_fail F sh n z2 ku 6 (nI y.2) = some (z3, ()) := g1
        rw [if_neg (fun x => by have := (nI_leI (by omega) (by omega)).mp x; omega), g1', cal_s, if_pos c]
        exact ⟨z3, rfl, g2, (fun q y => by cases y), fm.trans g3.m⟩
      · rw [if_pos ((nI_leI (by omega) (by omega)).mpr (by omega)), if_neg c]
        exact ⟨z2, rfl, w2, fun q x => by cases x; exact ⟨e9, w3, w4, fz⟩, fm⟩
end
