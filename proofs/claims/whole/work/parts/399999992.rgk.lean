/-! THE REFERENCE'S MACHINE: shifts -/
def sh2 (up : Bool) (X k : Nat) : Nat := if up then X * 2 ^ k % 2 ^ 128 else X / 2 ^ k
theorem sh2_u {X k : Nat} : sh2 true X (k + 1) = 2 * sh2 true X k % 2 ^ 128 := by
  unfold sh2
  simp only [if_true]
  rw [Nat.pow_succ, ← Nat.mul_assoc]
  generalize X * 2 ^ k = y
  omega
theorem sh2_d {X k : Nat} : sh2 false X (k + 1) = sh2 false X k / 2 := by
  unfold sh2
  simp only [Bool.false_eq_true, if_false]
  rw [Nat.pow_succ, Nat.div_div_eq_div_mul]
theorem V2_dn1 {h l : Int64} : V2 ((h.toUInt64 >>> ((1 : Int32).toInt64.toUInt64 &&& Int64.toUInt64 63)).toInt64) ((l.toUInt64 >>> ((1 : Int32).toInt64.toUInt64 &&& Int64.toUInt64 63)).toInt64 ||| (h <<< ((63 : Int32).toInt64 &&& 63))) = V2 h l / 2 := by
  have := V2_dn (h := h) (l := l) (k := 1) (by omega) (by omega)
  rw [show nI 1 = (1 : Int32) from rfl, show nI (64 - 1) = (63 : Int32) from rfl, Nat.pow_one] at this
  exact this
section
variable {F n : Nat} {sh : Nat → Nat × Nat} {z z1 z' : St} {H : Hp} {m : Nat} {fr : Nat → Fm} {nf na : Nat} {ak : Nat → Ask} {g lim : Nat}
theorem sl34 {w : Nat} {v : Int64} : (sl z w 3 v).2.1 w 4 = z.2.1 w 4 := by simp [sl_2]
theorem sl43 {w : Nat} {v : Int64} : (sl z w 4 v).2.1 w 3 = z.2.1 w 3 := by simp [sl_2]
/-- only two places of the wide numbers change -/
def Fr34 (w : Nat) (z z' : St) : Prop := z'.1 = z.1 ∧ z'.2.2 = z.2.2 ∧ ∀ k, k ≠ w → z'.2.1 k = z.2.1 k
theorem Fr34.sl {w j : Nat} {v : Int64} : Fr34 w z (sl z w j v) := ⟨rfl, rfl, fun k hk => by funext i; simp [sl_2, hk]⟩
theorem Fr34.trans {w : Nat} {z'' : St} (h : Fr34 w z z') (g : Fr34 w z' z'') : Fr34 w z z'' := ⟨g.1.trans h.1, g.2.1.trans h.2.1, fun k hk => (g.2.2 k hk).trans (h.2.2 k hk)⟩
theorem shL_u {w k X : Nat} {bits : Int32} (hk : k < 2 ^ 20) : ∀ r i f z0, i + r = k → r < f → V2 (z0.2.1 w 3) (z0.2.1 w 4) = sh2 true X i → ∃ z' f', fn_X17_shift_L14 F sh n (nI k) bits w 1 f z0 (nI i) = fn_X17_shift_L14 F sh n (nI k) bits w 1 (f' + 1) z' (nI k) ∧ V2 (z'.2.1 w 3) (z'.2.1 w 4) = sh2 true X k ∧ Fr34 w z0 z' := by
  intro r
  induction r with
  | zero =>
    intro i f z0 e hf hV
    obtain ⟨f', rfl⟩ : ∃ q, f = q + 1 := ⟨f - 1, by omega⟩
    have ei : i = k := by omega
    subst ei
    exact ⟨z0, f', rfl, hV, rfl, rfl, fun _ _ => rfl⟩
  | succ r ih =>
    intro i f z0 e hf hV
    obtain ⟨f', rfl⟩ : ∃ q, f = q + 1 := ⟨f - 1, by omega⟩
    have hc : ¬ nI k ≤ nI i := fun q => by have := (nI_leI (by omega) (by omega)).mp q; omega
    have v := V2_shl0 (h := z0.2.1 w 3) (l := z0.2.1 w 4)
    rw [fn_X17_shift_L14, if_neg hc, if_neg one0, lt_t, lt_t, sl34]
    unfold fn_X17_shift_B84
    generalize ((z0.2.1 w 3 <<< ((1 : Int32).toInt64 &&& 63)) ||| ((z0.2.1 w 4).toUInt64 >>> ((63 : Int32).toInt64.toUInt64 &&& Int64.toUInt64 63)).toInt64) = A at v ⊢
    generalize (z0.2.1 w 4 <<< ((1 : Int32).toInt64 &&& 63)) = B at v ⊢
    obtain ⟨z', f2, q1, q2, q3⟩ := ih (i + 1) f' (sl (sl z0 w 3 A) w 4 B) (by omega) (by omega) (by rw [sl43, show (sl z0 w 3 A).2.1 w 3 = A by simp [sl_2], show (sl (sl z0 w 3 A) w 4 B).2.1 w 4 = B by simp [sl_2], v, hV, sh2_u])
    refine ⟨z', f2, ?_, q2, (Fr34.sl.trans Fr34.sl).trans q3⟩
    rw [← q1, nI_1]
theorem shL_d {w k X : Nat} {bits : Int32} (hk : k < 2 ^ 20) : ∀ r i f z0, i + r = k → r < f → V2 (z0.2.1 w 3) (z0.2.1 w 4) = sh2 false X i → ∃ z' f', fn_X17_shift_L14 F sh n (nI k) bits w 0 f z0 (nI i) = fn_X17_shift_L14 F sh n (nI k) bits w 0 (f' + 1) z' (nI k) ∧ V2 (z'.2.1 w 3) (z'.2.1 w 4) = sh2 false X k ∧ Fr34 w z0 z' := by
  intro r
  induction r with
  | zero =>
    intro i f z0 e hf hV
    obtain ⟨f', rfl⟩ : ∃ q, f = q + 1 := ⟨f - 1, by omega⟩
    have ei : i = k := by omega
    subst ei
    exact ⟨z0, f', rfl, hV, rfl, rfl, fun _ _ => rfl⟩
  | succ r ih =>
    intro i f z0 e hf hV
    obtain ⟨f', rfl⟩ : ∃ q, f = q + 1 := ⟨f - 1, by omega⟩
    have hc : ¬ nI k ≤ nI i := fun q => by have := (nI_leI (by omega) (by omega)).mp q; omega
    have v := V2_dn1 (h := z0.2.1 w 3) (l := z0.2.1 w 4)
    rw [fn_X17_shift_L14, if_neg hc, if_pos rfl, lt_t, lt_t, sl43]
    unfold fn_X17_shift_B84
    generalize (((z0.2.1 w 4).toUInt64 >>> ((1 : Int32).toInt64.toUInt64 &&& Int64.toUInt64 63)).toInt64 ||| (z0.2.1 w 3 <<< ((63 : Int32).toInt64 &&& 63))) = B at v ⊢
    generalize (((z0.2.1 w 3).toUInt64 >>> ((1 : Int32).toInt64.toUInt64 &&& Int64.toUInt64 63)).toInt64) = A at v ⊢
    obtain ⟨z', f2, q1, q2, q3⟩ := ih (i + 1) f' (sl (sl z0 w 4 B) w 3 A) (by omega) (by omega) (by rw [sl34, show (sl z0 w 4 B).2.1 w 4 = B by simp [sl_2], show (sl (sl z0 w 4 B) w 3 A).2.1 w 3 = A by simp [sl_2], v, hV, sh2_d])
    refine ⟨z', f2, ?_, q2, (Fr34.sl.trans Fr34.sl).trans q3⟩
    rw [← q1, nI_1]
end
section
variable {F n : Nat} {sh : Nat → Nat × Nat} {z z1 z' : St} {H : Hp} {m : Nat} {fr : Nat → Fm} {nf na : Nat} {ak : Nat → Ask} {g lim : Nat}
theorem N_255 (x : Int64) : N (x &&& 255) = N x % 2 ^ 8 := by
  unfold N
  rw [Int64.toBitVec_and, BitVec.toNat_and]
  show x.toBitVec.toNat &&& (2 ^ 8 - 1) = _
  rw [Nat.and_two_pow_sub_one_eq_mod]
theorem shM_e {w k bits : Nat} {x0 : Int32} {f' : Nat} (hb : bits = 8 ∨ bits = 64 ∨ bits = 128) : ∃ z', fn_X17_shift_L14 F sh n (nI k) (nI bits) w x0 (f' + 1) z (nI k) = some (z', ()) ∧ V2 (z'.2.1 w 3) (z'.2.1 w 4) = V2 (z.2.1 w 3) (z.2.1 w 4) % 2 ^ bits ∧ Fr34 w z z' := by
  have a4 := N_lt (z.2.1 w 4)
  have le : nI k ≤ nI k := Int32.le_refl _
  rcases hb with e | e | e <;> subst e
  · refine ⟨sl (sl z w 3 0) w 4 (z.2.1 w 4 &&& 255), ?_, ?_, Fr34.sl.trans Fr34.sl⟩
    · rw [fn_X17_shift_L14, if_pos le, if_neg (by decide), lt_t, if_pos (by rfl), lt_t, sl34]
    · rw [sl43, show (sl z w 3 0).2.1 w 3 = 0 by simp [sl_2], show (sl (sl z w 3 0) w 4 (z.2.1 w 4 &&& 255)).2.1 w 4 = z.2.1 w 4 &&& 255 by simp [sl_2]]
      unfold V2
      rw [N_0, N_255]
      omega
  · refine ⟨sl (sl z w 3 0) w 4 (z.2.1 w 4), ?_, ?_, Fr34.sl.trans Fr34.sl⟩
    · rw [fn_X17_shift_L14, if_pos le, if_neg (by decide), lt_t, if_neg (by decide), lt_t, sl34]
    · rw [sl43, show (sl z w 3 0).2.1 w 3 = 0 by simp [sl_2], show (sl (sl z w 3 0) w 4 (z.2.1 w 4)).2.1 w 4 = z.2.1 w 4 by simp [sl_2]]
      unfold V2
      rw [N_0]
      omega
  · refine ⟨z, ?_, (Nat.mod_eq_of_lt (V2_lt _ _)).symm, rfl, rfl, fun _ _ => rfl⟩
    rw [fn_X17_shift_L14, if_pos le, if_pos (by rfl)]
theorem shM_t (hF : 300 ≤ F) {w k bits : Nat} {up : Bool} (ho : okO sh n w 17 = true) (hk : k < 256) (hb : bits = 8 ∨ bits = 64 ∨ bits = 128) (h l : Int64) : ∃ z', fn_X17_shift F sh n z w (bI up) h l (nI k) (nI bits) = some (z', ()) ∧ V2 (z'.2.1 w 3) (z'.2.1 w 4) = sh2 up (V2 h l) k % 2 ^ bits ∧ Fr34 w z z' := by
  have v0 : V2 ((sl (sl z w 3 h) w 4 l).2.1 w 3) ((sl (sl z w 3 h) w 4 l).2.1 w 4) = V2 h l := by
    rw [sl43, show (sl z w 3 h).2.1 w 3 = h by simp [sl_2], show (sl (sl z w 3 h) w 4 l).2.1 w 4 = l by simp [sl_2]]
  have st : fn_X17_shift F sh n z w (bI up) h l (nI k) (nI bits) = fn_X17_shift_L14 F sh n (nI k) (nI bits) w (bI up) F (sl (sl z w 3 h) w 4 l) (nI 0) := by
    unfold fn_X17_shift
    rw [ho, grd_true, lt_t, lt_t]
    rfl
  rw [st]
  cases up with
  | true =>
    obtain ⟨z1, f', q1, q2, q3⟩ := shL_u (F := F) (sh := sh) (n := n) (w := w) (k := k) (X := V2 h l) (bits := nI bits) (by omega) k 0 F (sl (sl z w 3 h) w 4 l) (by omega) (by omega) (by rw [v0]; unfold sh2; simp only [if_true]; rw [Nat.pow_zero, Nat.mul_one, Nat.mod_eq_of_lt (V2_lt _ _)])
    obtain ⟨z2, r1, r2, r3⟩ := shM_e (F := F) (sh := sh) (n := n) (z := z1) (w := w) (k := k) (x0 := 1) (f' := f') hb
    exact ⟨z2, q1.trans r1, by rw [r2, q2], ((Fr34.sl.trans Fr34.sl).trans q3).trans r3⟩
  | false =>
    obtain ⟨z1, f', q1, q2, q3⟩ := shL_d (F := F) (sh := sh) (n := n) (w := w) (k := k) (X := V2 h l) (bits := nI bits) (by omega) k 0 F (sl (sl z w 3 h) w 4 l) (by omega) (by omega) (by rw [v0]; unfold sh2; simp only [Bool.false_eq_true, if_false]; rw [Nat.pow_zero, Nat.div_one])
    obtain ⟨z2, r1, r2, r3⟩ := shM_e (F := F) (sh := sh) (n := n) (z := z1) (w := w) (k := k) (x0 := 0) (f' := f') hb
    exact ⟨z2, q1.trans r1, by rw [r2, q2], ((Fr34.sl.trans Fr34.sl).trans q3).trans r3⟩
end
