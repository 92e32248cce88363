/-! A CALL'S END: what is given, the class's side -/
theorem tx_sh : ∀ t, t < 32 → shF (113 + 7 * t) = (8, 0) ∧ shF (113 + 7 * t + 4) = (101, 8) ∧ shF (113 + 7 * t + 5) = (102, 8) ∧ shF (113 + 7 * t + 6) = (102, 8) ∧ lkF (113 + 7 * t) 16 = some (113 + 7 * t + 4) ∧ lkF (113 + 7 * t) 17 = some (113 + 7 * t + 5) ∧ lkF (113 + 7 * t) 18 = some (113 + 7 * t + 6) := by decide
section
variable {F n : Nat} {sh : Nat → Nat × Nat}
/-- what a result changes: p and on -/
def FrU (kt p : Nat) (z z' : St) : Prop := z'.2.2 = z.2.2 ∧ (∀ k, k ≠ kt → ¬ (kt + 4 ≤ k ∧ k ≤ kt + 6) → z'.1 k = z.1 k ∧ z'.2.1 k = z.2.1 k) ∧ (∀ j, j ≠ 15 → z'.1 kt j = z.1 kt j) ∧ z'.2.1 kt = z.2.1 kt ∧ ∀ k j, kt + 4 ≤ k → k ≤ kt + 6 → j < p → z'.1 k j = z.1 k j ∧ z'.2.1 k j = z.2.1 k j
theorem FrU.rfl' {kt p : Nat} {z : St} : FrU kt p z z := ⟨rfl, fun _ _ _ => ⟨rfl, rfl⟩, fun _ _ => rfl, rfl, fun _ _ _ _ _ => ⟨rfl, rfl⟩⟩
theorem FrU.trans {kt p q : Nat} {z z' z'' : St} (f : FrU kt p z z') (g : FrU kt q z' z'') (h : p ≤ q) : FrU kt p z z'' := ⟨g.1.trans f.1, fun k a b => ⟨(g.2.1 k a b).1.trans (f.2.1 k a b).1, (g.2.1 k a b).2.trans (f.2.1 k a b).2⟩, fun j a => (g.2.2.1 j a).trans (f.2.2.1 j a), g.2.2.2.1.trans f.2.2.2.1, fun k j a b c => ⟨(g.2.2.2.2 k j a b (by omega)).1.trans (f.2.2.2.2 k j a b c).1, (g.2.2.2.2 k j a b (by omega)).2.trans (f.2.2.2.2 k j a b c).2⟩⟩
def crS (z : St) (kt p : Nat) (k : Int32) (x y : Int64) : St := si (sl (sl (si z (kt + 4) p k) (kt + 5) p x) (kt + 6) p y) kt 15 (nI (p + 1))
theorem crS_fr {kt p : Nat} {z : St} {k : Int32} {x y : Int64} : FrU kt p z (crS z kt p k x y) := by
  refine ⟨rfl, fun i a b => ⟨?_, ?_⟩, fun j a => ?_, ?_, fun i j a b c => ⟨?_, ?_⟩⟩
  · funext l; unfold crS; rw [si_ok a, sl_1, sl_1, si_ok (by omega)]
  · funext l; unfold crS; rw [si_2, sl_ok (by omega), sl_ok (by omega), si_2]
  · unfold crS; rw [si_oj a, sl_1, sl_1, si_ok (by omega)]
  · funext l; unfold crS; rw [si_2, sl_ok (by omega), sl_ok (by omega), si_2]
  · unfold crS; rw [si_ok (by omega), sl_1, sl_1]
    by_cases e : i = kt + 4
    · subst e; rw [si_oj (by omega)]
    · rw [si_ok e]
  · unfold crS; rw [si_2]
    have e2 : (sl (si z (kt + 4) p k) (kt + 5) p x).2.1 i j = z.2.1 i j := by
      by_cases e : i = kt + 5
      · subst e; rw [sl_oj (by omega), si_2]
      · rw [sl_ok e, si_2]
    by_cases e : i = kt + 6
    · subst e; rw [sl_oj (by omega)]; exact e2
    · rw [sl_ok e]; exact e2
theorem addRes_t {z : St} {t p : Nat} (hL : Lay sh n z) (ht : t < 32) (hp : p < 8) (h15 : z.1 (113 + 7 * t) 15 = nI p) (k : Int32) (x y : Int64) : fn_X8_addResult F sh n z (113 + 7 * t) k x y = some (crS z (113 + 7 * t) p k x y, ()) := by
  obtain ⟨s0, s1, s2, s3, l1, l2, l3⟩ := tx_sh t ht
  have O8 : okO sh n (113 + 7 * t) 8 = true := lay_o hL _ 8 0 (by omega) s0
  have op : okI (nI p) 8 = true := okI_nI hp (by omega)
  have cp : (nI p).toNatClampNeg = p := nI_clamp (by omega)
  have g8 : ¬ (8 : Int32) ≤ nI p := fun q => by have := (nIge (x := 8) 8 rfl (by omega) (by omega)).mp q; omega
  generalize hkt : 113 + 7 * t = kt at *
  have e1 : (si z (kt + 4) p k).1 kt 15 = nI p := by rw [si_ok (by omega)]; exact h15
  have e2 : (sl (si z (kt + 4) p k) (kt + 5) p x).1 kt 15 = nI p := by rw [sl_1]; exact e1
  have e3 : (sl (sl (si z (kt + 4) p k) (kt + 5) p x) (kt + 6) p y).1 kt 15 = nI p := by rw [sl_1]; exact e2
  unfold fn_X8_addResult
  rw [O8, grd_true, h15, if_neg g8, hL.2.2 kt 16 (kt + 4) l1, lnk_s, lay_a hL (kt + 4) 101 8 (by omega) s1, op, grd_true, cp, lt_t, si_3, hL.2.2 kt 17 (kt + 5) l2, lnk_s, e1, lay_a hL (kt + 5) 102 8 (by omega) s2, op, grd_true, cp, lt_t, sl_3, si_3, hL.2.2 kt 18 (kt + 6) l3, lnk_s, e2, lay_a hL (kt + 6) 102 8 (by omega) s3, op, grd_true, cp, lt_t, e3, nI_1, lt_t]
  rfl
theorem cres (t h : Nat) (ht : t < 32) (hh : h ≤ 8) (cn : Nat → Nat) (kd : Nat → Nat) (hi lo : Nat → Int64) (hs : ∀ k, k < h → cn k < 21600) : ∀ r p f z, p + r = h → r < f → Lay sh n z → z.2.2 87 13 = some (113 + 7 * t) → z.1 101 0 = nI h → z.1 (113 + 7 * t) 15 = nI p → (∀ k, k < h → z.1 103 k = nI (cn k) ∧ z.1 89 (cn k) = nI (kd k) ∧ z.2.1 91 (cn k) = hi k ∧ z.2.1 90 (cn k) = lo k) → ∃ z', fn_X4_run_L220 F sh n 87 f z (nI p) = cal (fn_X2_commit F sh n z' 104) (fun z_61 _ => fn_X4_run_B284 F sh n 87 z_61) ∧ FrU (113 + 7 * t) p z z' ∧ z'.1 (113 + 7 * t) 15 = nI h ∧ ∀ k, p ≤ k → k < h → z'.1 (113 + 7 * t + 4) k = nI (kd k) ∧ z'.2.1 (113 + 7 * t + 5) k = hi k ∧ z'.2.1 (113 + 7 * t + 6) k = lo k := by
  intro r
  induction r with
  | zero =>
    intro p f z e hf hL h13 h101 h15 hz
    obtain ⟨f, rfl⟩ : ∃ g, f = g + 1 := ⟨f - 1, by omega⟩
    refine ⟨z, ?_, FrU.rfl', by rw [h15, show p = h by omega], fun k a b => by omega⟩
    conv => lhs; unfold fn_X4_run_L220
    rw [hL.2.2 87 9 101 rfl, lnk_s, lay_a hL 101 101 32 (by decide) rfl, show okI 0 32 = true from rfl, grd_true, show ((0 : Int32).toNatClampNeg) = 0 from rfl, h101, if_pos ((nI_leI (by omega) (by omega)).mpr (by omega)), hL.2.2 87 2 104 rfl, lnk_s, (b_jour hL).1, grd_true]
  | succ r ih =>
    intro p f z e hf hL h13 h101 h15 hz
    obtain ⟨f, rfl⟩ : ∃ g, f = g + 1 := ⟨f - 1, by omega⟩
    obtain ⟨a1, a2, a3, a4⟩ := hz p (by omega)
    have b1 := hs p (by omega)
    have f1 := crS_fr (kt := 113 + 7 * t) (p := p) (z := z) (k := nI (kd p)) (x := hi p) (y := lo p)
    have ar := addRes_t (F := F) hL ht (show p < 8 by omega) h15 (nI (kd p)) (hi p) (lo p)
    obtain ⟨z', q1, q2, q3, q4⟩ := ih (p + 1) f (crS z (113 + 7 * t) p (nI (kd p)) (hi p) (lo p)) (by omega) (by omega) (hL.of f1.1) (by rw [f1.1]; exact h13) (by rw [(f1.2.1 101 (by omega) (by omega)).1]; exact h101) si_ss (fun k hk => by rw [(f1.2.1 103 (by omega) (by omega)).1, (f1.2.1 89 (by omega) (by omega)).1, (f1.2.1 91 (by omega) (by omega)).2, (f1.2.1 90 (by omega) (by omega)).2]; exact hz k hk)
    refine ⟨z', ?_, f1.trans q2 (by omega), q3, fun k k1 k2 => ?_⟩
    · have cp : (nI p).toNatClampNeg = p := nI_clamp (by omega)
      have cs : (nI (cn p)).toNatClampNeg = cn p := nI_clamp (by omega)
      have os : okI (nI (cn p)) 21600 = true := okI_nI (by omega) (by omega)
      have op : okI (nI p) 2048 = true := okI_nI (by omega) (by omega)
      have O8 : okO sh n (113 + 7 * t) 8 = true := lay_o hL _ 8 0 (by omega) (tx_sh t ht).1
      have O1 : okO sh n 88 1 = true := (b_heap hL).1
      conv => lhs; unfold fn_X4_run_L220
      rw [hL.2.2 87 9 101 rfl, lnk_s, lay_a hL 101 101 32 (by decide) rfl, show okI 0 32 = true from rfl, grd_true, show ((0 : Int32).toNatClampNeg) = 0 from rfl, h101, if_neg (fun q => by have := (nI_leI (by omega) (by omega)).mp q; omega), hL.2.2 87 11 103 rfl, lnk_s, lay_a hL 103 101 2048 (by decide) rfl, op, grd_true, cp, a1, lt_t, h13, lnk_s, hL.2.2 87 1 88 rfl, lnk_s, O1, grd_true, hL.2.2 88 0 89 rfl, lnk_s, lay_a hL 89 100 21600 (by decide) rfl, os, grd_true, lnk_s, O1, grd_true, hL.2.2 88 2 91 rfl, lnk_s, lay_a hL 91 102 21600 (by decide) rfl, os, grd_true, lnk_s, O1, grd_true, hL.2.2 88 1 90 rfl, lnk_s, lay_a hL 90 102 21600 (by decide) rfl, os, grd_true, O8, grd_true, cs, a2, a3, a4, ar, cal_s, nI_1]
      exact q1
    · by_cases c : k = p
      · subst c
        have q := fun c a b => q2.2.2.2.2 c k a b (by omega)
        rw [(q (113 + 7 * t + 4) (by omega) (by omega)).1, (q (113 + 7 * t + 5) (by omega) (by omega)).2, (q (113 + 7 * t + 6) (by omega) (by omega)).2]
        unfold crS
        exact ⟨by rw [si_ok (by omega), sl_1, sl_1, si_ss], by rw [si_2, sl_ok (by omega), sl_ss], by rw [si_2, sl_ss]⟩
      · exact q4 k (by omega) k2
end
