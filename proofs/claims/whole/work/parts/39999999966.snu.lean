/-! A CALL'S END: what is given, on both sides -/
section
variable {F n : Nat} {sh : Nat → Nat × Nat}
/-- rows of results that a call may change -/
def FrV (a b : Nat) (z z' : St) : Prop := z'.2.2 = z.2.2 ∧ (∀ k, ¬ (417 ≤ k ∧ k ≤ 419) → z'.1 k = z.1 k ∧ z'.2.1 k = z.2.1 k) ∧ ∀ k j, ¬ (a ≤ j ∧ j < b) → z'.1 k j = z.1 k j ∧ z'.2.1 k j = z.2.1 k j
theorem FrV.rfl' {a b : Nat} {z : St} : FrV a b z z := ⟨rfl, fun _ _ => ⟨rfl, rfl⟩, fun _ _ _ => ⟨rfl, rfl⟩⟩
theorem FrV.wide {a b c d : Nat} {z z' : St} (f : FrV a b z z') (h1 : c ≤ a) (h2 : b ≤ d) : FrV c d z z' := ⟨f.1, f.2.1, fun k j q => f.2.2 k j (fun x => q (by omega))⟩
theorem FrV.trans {a b : Nat} {z z' z'' : St} (f : FrV a b z z') (g : FrV a b z' z'') : FrV a b z z'' := ⟨g.1.trans f.1, fun k a => ⟨(g.2.1 k a).1.trans (f.2.1 k a).1, (g.2.1 k a).2.trans (f.2.1 k a).2⟩, fun k j a => ⟨(g.2.2 k j a).1.trans (f.2.2 k j a).1, (g.2.2 k j a).2.trans (f.2.2 k j a).2⟩⟩
/-- one result -/
def rvS (z : St) (j : Nat) (k : Int32) (x y : Int64) : St := sl (sl (si z 417 j k) 418 j x) 419 j y
theorem rvS_fr {a b j : Nat} {z : St} {k : Int32} {x y : Int64} (h : a ≤ j ∧ j < b) : FrV a b z (rvS z j k x y) := by
  refine ⟨rfl, fun i q => ⟨?_, ?_⟩, fun i l q => ⟨?_, ?_⟩⟩
  · funext l; unfold rvS; rw [sl_1, sl_1, si_ok (by omega)]
  · funext l; unfold rvS; rw [sl_ok (by omega), sl_ok (by omega), si_2]
  · unfold rvS; rw [sl_1, sl_1]
    by_cases e : i = 417
    · subst e; rw [si_oj (by omega)]
    · rw [si_ok e]
  · unfold rvS
    have lj : l ≠ j := fun e => q (by omega)
    have e2 : (sl (si z 417 j k) 418 j x).2.1 i l = z.2.1 i l := by
      by_cases e : i = 418
      · subst e; rw [sl_oj lj, si_2]
      · rw [sl_ok e, si_2]
    by_cases e : i = 419
    · subst e; rw [sl_oj lj]; exact e2
    · rw [sl_ok e]; exact e2
theorem rres (t h : Nat) (ht : t < 32) (hh : h ≤ 8) (sn : Nat → Nat) (kd : Nat → Nat) (hi lo : Nat → Int64) (hs : ∀ k, k < h → sn k < 24576 ∧ kd k < 8) : ∀ r p f z, p + r = h → r < f → Lay sh n z → z.1 337 45 = nI h → (∀ k, k < h → z.1 397 k = nI (sn k) ∧ z.1 350 (sn k) = nI (kd k) ∧ z.2.1 351 (sn k) = hi k ∧ z.2.1 352 (sn k) = lo k) → ∃ z', fn_X18_callOne_L192 F sh n 337 (nI t) f z (nI p) = cal (fn_X18_settle F sh n (si z' 416 t (nI h)) 337) (fun z_53 _ => some (z_53, ())) ∧ FrV (8 * t + p) (8 * t + 8) z z' ∧ ∀ k, p ≤ k → k < h → z'.1 417 (8 * t + k) = nI (kd k) ∧ z'.2.1 418 (8 * t + k) = hi k ∧ z'.2.1 419 (8 * t + k) = lo k := by
  intro r
  induction r with
  | zero =>
    intro p f z e hf hL h45 hz
    obtain ⟨f, rfl⟩ : ∃ g, f = g + 1 := ⟨f - 1, by omega⟩
    refine ⟨z, ?_, FrV.rfl', fun k a b => by omega⟩
    conv => lhs; unfold fn_X18_callOne_L192
    rw [h45, if_pos ((nI_leI (by omega) (by omega)).mpr (by omega)), hL.2.2 337 70 416 rfl, lnk_s, lay_a hL 416 101 32 (by decide) rfl, okI_nI ht (by omega), grd_true, nI_clamp (by omega), lt_t]
  | succ r ih =>
    intro p f z e hf hL h45 hz
    obtain ⟨f, rfl⟩ : ∃ g, f = g + 1 := ⟨f - 1, by omega⟩
    obtain ⟨a1, a2, a3, a4⟩ := hz p (by omega)
    obtain ⟨b1, b2⟩ := hs p (by omega)
    have f1 : FrV (8 * t + p) (8 * t + 8) z (rvS z (8 * t + p) (nI (kd p)) (hi p) (lo p)) := rvS_fr (by omega)
    have L1 : Lay sh n (si z 417 (8 * t + p) (nI (kd p))) := hL.of rfl
    have L2 : Lay sh n (sl (si z 417 (8 * t + p) (nI (kd p))) 418 (8 * t + p) (hi p)) := hL.of rfl
    have z1 : ∀ k j, k ≠ 417 → (si z 417 (8 * t + p) (nI (kd p))).1 k j = z.1 k j := fun k j q => by rw [si_ok q]
    have z2 : ∀ k j, k ≠ 418 → (sl (si z 417 (8 * t + p) (nI (kd p))) 418 (8 * t + p) (hi p)).2.1 k j = z.2.1 k j := fun k j q => by rw [sl_ok q, si_2]
    obtain ⟨z', q1, q2, q3⟩ := ih (p + 1) f (rvS z (8 * t + p) (nI (kd p)) (hi p) (lo p)) (by omega) (by omega) (hL.of f1.1) (by rw [(f1.2.1 337 (by omega)).1]; exact h45) (fun k hk => by rw [(f1.2.1 397 (by omega)).1, (f1.2.1 350 (by omega)).1, (f1.2.1 351 (by omega)).2, (f1.2.1 352 (by omega)).2]; exact hz k hk)
    refine ⟨z', ?_, f1.trans (q2.wide (by omega) (by omega)), fun k k1 k2 => ?_⟩
    · have e8 : 8 * nI t + nI p = nI (8 * t + p) := by rw [show (8 : Int32) = nI 8 from rfl, pk_mul, nI_add]
      have oj : ∀ w, okI (nI (8 * t + p)) 256 = true ∧ (nI (8 * t + p)).toNatClampNeg = 8 * t + p := fun _ : Nat => ⟨okI_nI (by omega) (by omega), nI_clamp (by omega)⟩
      have cp : (nI p).toNatClampNeg = p := nI_clamp (by omega)
      have cs : (nI (sn p)).toNatClampNeg = sn p := nI_clamp (by omega)
      have os : okI (nI (sn p)) 24576 = true := okI_nI (by omega) (by omega)
      have op : okI (nI p) 2200 = true := okI_nI (by omega) (by omega)
      have O15 : okO sh n 349 15 = true := lay_o hL 349 15 0 (by decide) rfl
      conv => lhs; unfold fn_X18_callOne_L192
      rw [h45, if_neg (fun q => by have := (nI_leI (by omega) (by omega)).mp q; omega), lt_t, e8, hL.2.2 337 71 417 rfl, lnk_s, hL.2.2 337 15 349 rfl, lnk_s, O15, grd_true, hL.2.2 349 0 350 rfl, lnk_s, hL.2.2 337 43 397 rfl, lnk_s, lay_a hL 397 101 2200 (by decide) rfl, op, grd_true, cp, a1, lay_a hL 350 100 24576 (by decide) rfl, os, grd_true, lay_a hL 417 100 256 (by decide) rfl, (oj 0).1, grd_true, cs, (oj 0).2, a2, nar_k (by omega), lt_t]
      rw [L1.2.2 337 72 418 rfl, lnk_s, L1.2.2 337 15 349 rfl, lnk_s, O15, grd_true, L1.2.2 349 1 351 rfl, lnk_s, L1.2.2 337 43 397 rfl, lnk_s, lay_a hL 397 101 2200 (by decide) rfl, op, grd_true, z1 397 _ (by decide), a1, lay_a hL 351 102 24576 (by decide) rfl, os, grd_true, lay_a hL 418 102 256 (by decide) rfl, (oj 0).1, grd_true, cs, si_2, a3, lt_t]
      rw [L2.2.2 337 73 419 rfl, lnk_s, L2.2.2 337 15 349 rfl, lnk_s, O15, grd_true, L2.2.2 349 2 352 rfl, lnk_s, L2.2.2 337 43 397 rfl, lnk_s, lay_a hL 397 101 2200 (by decide) rfl, op, grd_true, sl_1, z1 397 _ (by decide), a1, lay_a hL 352 102 24576 (by decide) rfl, os, grd_true, lay_a hL 419 102 256 (by decide) rfl, (oj 0).1, grd_true, cs, z2 352 _ (by decide), a4, lt_t, nI_1]
      exact q1
    · by_cases c : k = p
      · subst c
        have q := fun c => q2.2.2 c (8 * t + k) (by omega)
        rw [(q 417).1, (q 418).2, (q 419).2]
        unfold rvS
        exact ⟨by rw [sl_1, sl_1, si_ss], by rw [sl_ok (by omega), sl_ss], sl_ss⟩
      · exact q3 k (by omega) k2
end
