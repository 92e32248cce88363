/-! THE CLASS'S LOOKER: its rows -/
def CK (sh : Nat → Nat × Nat) (n : Nat) (z : St) (kp f : Nat) (ls : List Ty) (ns : Nat) (L : Lks) : Prop := Lay sh n z ∧ z.2.2 62 2 = some kp ∧ z.1 62 3 = nI f ∧ z.1 62 1 = nI 0 ∧ (z.1 62 8 = nI L.1.1 ∧ L.1.1 ≤ 64 ∧ ∀ k, k < L.1.1 → z.2.1 63 k = tL (L.1.2 k).1 ∧ z.2.1 64 k = (L.1.2 k).2.1 ∧ z.1 65 k = bI (L.1.2 k).2.2 ∧ TBr ns (L.1.2 k).1 ∧ (isR (L.1.2 k).1 = false → (L.1.2 k).2.1 = 0 ∧ (L.1.2 k).2.2 = false)) ∧ (ls.length ≤ 40 ∧ ∀ k, k < ls.length → z.2.1 66 k = tL (ls.getD k []) ∧ TBr ns (ls.getD k [])) ∧ (∀ k, ob (z.2.1 62 12) k = (decide (k < ls.length) && L.2.1 k) ∧ ob (z.2.1 62 13) k = (decide (k < ls.length) && L.2.1 k && L.2.2.2 k)) ∧ ∀ k, k < 40 → z.2.1 67 k = if (decide (k < ls.length) && L.2.1 k) = true then L.2.2.1 k else 0
def tknC (z : St) (q : SS) : Prop := z.2.1 62 14 = q.2.1 ∧ z.1 62 15 = bI q.2.2
/-- the class's state against what looking comes to -/
def CR (sh : Nat → Nat × Nat) (n : Nat) (z : St) (kp f : Nat) (ls : List Ty) (ns : Nat) : Px Lks → Prop
  | .ok L => CK sh n z kp f ls ns L
  | .error w => 0 < w ∧ CB sh n z kp f w
section
variable {F n : Nat} {sh : Nat → Nat × Nat} {z z' : St} {kp f ns : Nat} {ls : List Ty} {L : Lks}
theorem CK.cb (h : CK sh n z kp f ls ns L) : CB sh n z kp f 0 := by
  obtain ⟨a1, a2, a3, a4, ⟨b1, b2, b3⟩, _⟩ := h
  exact ⟨a1, a2, a3, ⟨a4, by omega⟩, L.1.1, b1, b2, fun k hk => by rw [(b3 k hk).2.2.1]; cases (L.1.2 k).2.2 <;> rfl⟩
theorem CK.take (h : CK sh n z kp f ls ns L) : ∃ z' x, fn_X3_take F sh n z 62 = some (z', x) ∧ FrQc z z' ∧ ((lTake L = .error 1 ∧ x = 0 ∧ CB sh n z' kp f 1) ∨ ∃ q, lTake L = .ok q ∧ x = tL q.1.1 ∧ CK sh n z' kp f ls ns q.2 ∧ tknC z' q.1 ∧ TBr ns q.1.1 ∧ (isR q.1.1 = false → q.1.2.1 = 0 ∧ q.1.2.2 = false)) := by
  have h' := h
  obtain ⟨a1, a2, a3, a4, ⟨b1, b2, b3⟩, c1, c2, c3⟩ := h
  unfold fn_X3_take lTake
  rw [h'.cb.o3, grd_true, b1]
  by_cases c : L.1.1 = 0
  · obtain ⟨z1, q1, q2, q3⟩ := h'.cb.fail (F := F) (v := 1) (by omega)
    have q1' : fn_X3_fail F sh n z 62 1 = some (z1, ()) := q1
    rw [if_pos (show nI L.1.1 = 0 by rw [c]; rfl), q1', cal_s, if_pos c]
    exact ⟨z1, _, rfl, q3, Or.inl ⟨rfl, rfl, q2⟩⟩
  · obtain ⟨m, em⟩ : ∃ m, L.1.1 = m + 1 := ⟨L.1.1 - 1, by omega⟩
    have e1 : nI L.1.1 - 1 = nI m := by rw [em, ← nI_1, Int32.add_sub_cancel]
    have ok : ∀ k c, shF k = (c, 64) → k < 513 → okA sh n k c (nI m) = true := fun k c ee hk => by rw [lay_a a1 k c 64 hk ee]; exact okI_nI (by omega) (by omega)
    have cp : (nI m).toNatClampNeg = m := nI_clamp (by omega)
    have v1 : (si z 62 8 (nI m)).1 62 8 = nI m := si_ss
    obtain ⟨s1, s2, s3, s4, s5⟩ := b3 m (by omega)
    have oz : okZ (z.1 65 m) = true := by rw [s3]; cases (L.1.2 m).2.2 <;> rfl
    have ev : ∀ o b, (si (sl (si z 62 8 (nI m)) 62 14 o) 62 15 b).2.1 63 m = z.2.1 63 m := fun o b => by rw [si_2, sl_ok (by omega), si_2]
    rw [if_neg (nI_ne0 (by omega) (by omega)), e1, lt_t, si_3, a1.2.2 62 6 64 rfl, lnk_s, v1, ok 64 102 rfl (by omega), grd_true, lt_t, sl_3, si_3, a1.2.2 62 7 65 rfl, lnk_s, sl_1, v1, ok 65 103 rfl (by omega), grd_true, cp, si_ok (show (65 : Nat) ≠ 62 by omega), oz, grd_true, lt_t, si_3, sl_3, si_3, a1.2.2 62 5 63 rfl, lnk_s, si_oj (show (8 : Nat) ≠ 15 by omega), sl_1, v1, ok 63 102 rfl (by omega), grd_true, if_neg c, cp, ev, s1]
    refine ⟨_, _, rfl, ((FrQc.si (.inl ⟨rfl, by omega⟩)).trans (FrQc.sl (.inl ⟨rfl, by omega⟩))).trans (FrQc.si (.inl ⟨rfl, by omega⟩)), Or.inr ⟨_, rfl, ?_, ⟨a1.of rfl, a2, ?_, ?_, ⟨?_, ?_, fun k hk => ?_⟩, ⟨c1.1, fun k hk => ?_⟩, fun k => ?_, fun k hk => ?_⟩, ⟨?_, ?_⟩, ?_, ?_⟩⟩
    · show tL (L.1.2 m).1 = tL (L.1.2 (L.1.1 - 1)).1
      rw [em, Nat.add_sub_cancel]
    · rw [si_oj (by omega), sl_1, si_oj (by omega)]; exact a3
    · rw [si_oj (by omega), sl_1, si_oj (by omega)]; exact a4
    · rw [si_oj (by omega), sl_1, si_ss]
      show nI m = nI (L.1.1 - 1)
      rw [em, Nat.add_sub_cancel]
    · show L.1.1 - 1 ≤ 64; omega
    · have hk' : k < L.1.1 - 1 := hk
      rw [si_2, sl_ok (by omega), si_2, sl_ok (by omega), si_2, si_ok (by omega), sl_1, si_ok (by omega)]
      exact b3 k (by omega)
    · rw [si_2, sl_ok (by omega), si_2]; exact c1.2 k hk
    · rw [si_2, sl_oj (by omega), sl_oj (by omega), si_2]; exact c2 k
    · rw [si_2, sl_ok (by omega), si_2]; exact c3 k hk
    · rw [si_2, sl_ss, si_2, s2]
      show (L.1.2 m).2.1 = (L.1.2 (L.1.1 - 1)).2.1
      rw [em, Nat.add_sub_cancel]
    · rw [si_ss, s3]
      show bI (L.1.2 m).2.2 = bI (L.1.2 (L.1.1 - 1)).2.2
      rw [em, Nat.add_sub_cancel]
    · show TBr ns (L.1.2 (L.1.1 - 1)).1
      rw [em, Nat.add_sub_cancel]; exact s4
    · show isR (L.1.2 (L.1.1 - 1)).1 = false → (L.1.2 (L.1.1 - 1)).2.1 = 0 ∧ (L.1.2 (L.1.1 - 1)).2.2 = false
      rw [em, Nat.add_sub_cancel]; exact s5
end
