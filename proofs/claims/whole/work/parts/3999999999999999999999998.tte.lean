/-! METHODS THAT WRITE DOWN: what is stored stays -/
/-- the reference's rows of accounts, modules and resources are as before -/
def FzB (z z' : St) : Prop := z'.2.2 = z.2.2 ∧ (∀ k, k ≠ 337 → ¬ (399 ≤ k ∧ k ≤ 420) → z'.1 k = z.1 k ∧ z'.2.1 k = z.2.1 k) ∧ (∀ j, j = 3 ∨ j = 5 ∨ j = 9 ∨ j = 22 → z'.1 337 j = z.1 337 j) ∧ z'.2.1 337 = z.2.1 337
def FyB (y y' : St) : Prop := (∀ k j, ¬ (113 ≤ k ∧ k < 337 ∧ j = 6) → y'.2.2 k j = y.2.2 k j) ∧ ∀ k, ¬ (k = 0 ∨ k = 1 ∨ k = 86 ∨ (113 ≤ k ∧ k < 337)) → y'.1 k = y.1 k ∧ y'.2.1 k = y.2.1 k
set_option maxRecDepth 10000 in
theorem lkF_6 : ∀ i, i < 224 → lkF (113 + i) 6 = none := by decide
section
variable {RV : RtV} {F n : Nat} {sh : Nat → Nat × Nat} {z z' y y' : St} {ws : Nat → Md} {wc : Nat} {dp : Nat → Nat → Nat} {bs : Nat → Nat × (Nat → Nat)} {nc : Nat} {ac : Nat → Int64 × Int64 × Int64} {nr : Nat} {rs : Nat → Int64 × Nat × Hp × Nat} {so : Nat → Option Rsc} {D cnt dn len w t : Nat}
theorem FyB.lay (h : Lay sh n y) (f : FyB y y') : Lay sh n y' := ⟨h.1, h.2.1, fun k j t q => by
  by_cases c : 113 ≤ k ∧ k < 337 ∧ j = 6
  · obtain ⟨c1, c2, c3⟩ := c
    subst c3
    have := lkF_6 (k - 113) (by omega)
    rw [show 113 + (k - 113) = k by omega, q] at this
    cases this
  · rw [f.1 k j c]; exact h.2.2 k j t q⟩
theorem RWo.fz (h : RWo sh n z ws wc dp) (f : FzB z z') : RWo sh n z' ws wc dp := by
  have hl := h.1.of f.1
  obtain ⟨h1, h2, h3, h4⟩ := h
  refine ⟨hl, by rw [f.2.2.1 5 (by omega)]; exact h2, h3, fun i a b => ?_⟩
  obtain ⟨⟨b', len, M, c1, c2⟩, c3⟩ := h4 i a b
  exact ⟨⟨b', len, M, c1.fmk hl (fun k q1 q2 => (f.2.1 k (by omega) (by omega)).1), c2⟩, fun s hs => by rw [(f.2.1 342 (by omega) (by omega)).1]; exact c3 s hs⟩
theorem CWo.fy (h : CWo sh n y ws wc dp) (f : FyB y y') : CWo sh n y' ws wc dp := by
  have w8 := h.2.2.1
  exact h.of2 (FyB.lay h.1 f) (by rw [(f.2 3 (by omega)).1]) (fun i hi => ⟨f.1 _ _ (by omega), fun k q1 q2 => f.2 k (by omega)⟩) (fun k hk => (f.2 k (by omega)).1)
theorem Wor.bk (h : Wor sh n z y ws wc dp bs) (fz : FzB z z') (fy : FyB y y') : Wor sh n z' y' ws wc dp bs := by
  have w8 := h.2.2.1.2.2.1
  refine ⟨h.1.fz fz, h.2.1.fy fy, h.2.2.1, fun i a b => ?_⟩
  obtain ⟨kb, c1, c2, c3, c4, c5, c6⟩ := h.2.2.2 i a b
  refine ⟨kb, by rw [fy.1 _ _ (by omega)]; exact c1, c2, by rw [(fy.2 _ (by omega)).1]; exact c3, by rw [(fz.2.1 _ (by omega) (by omega)).1]; exact c4, c5, fun p hp => ?_⟩
  rw [(fz.2.1 _ (by omega) (by omega)).1, rb_fr (fy.2 kb (by omega)).1]
  exact c6 p hp
theorem Lgr.bk (h : Lgr z y ws wc dp nc ac nr rs so D) (fz : FzB z z') (fy : FyB y y') : Lgr z' y' ws wc dp nc ac nr rs so D := by
  obtain ⟨⟨a1, a2, a3⟩, b, c, d⟩ := h
  refine ⟨⟨a1.of (fun k q1 q2 => fz.2.1 k (by omega) (by omega)) (fz.2.2.1 3 (by omega)) (fz.2.2.1 9 (by omega)), a2.of (fun k q1 q2 => fy.2 k (by omega)), a3⟩, b, ?_, ?_⟩
  · rw [fz.2.2.2, (fy.2 3 (by omega)).2]; exact c
  · rw [fz.2.2.1 22 (by omega), (fy.2 88 (by omega)).1]; exact d
theorem Fsh.bk (h : Fsh RV y wc bs nc ac nr rs) (fy : FyB y y') : Fsh RV y' wc bs nc ac nr rs := by
  unfold Fsh
  rw [(fy.2 73 (by omega)).1, (fy.2 74 (by omega)).2]
  exact h
/-- transactions lie where they lay -/
def FzT (z z' : St) : Prop := ∀ k, 400 ≤ k → k ≤ 419 → z'.1 k = z.1 k ∧ z'.2.1 k = z.2.1 k
def FyT (y y' : St) : Prop := y'.2.2 = y.2.2 ∧ ∀ k, 113 ≤ k → y'.1 k = y.1 k ∧ y'.2.1 k = y.2.1 k
theorem FzT.e (f : FzT z z') : EqTr t z z' ∧ EqDr t z z' := ⟨⟨fun k q => by rw [(f k (by omega) (by omega)).1], by rw [(f 401 (by omega) (by omega)).2], by rw [(f 402 (by omega) (by omega)).2], fun i _ => ⟨by rw [(f 407 (by omega) (by omega)).1], by rw [(f 408 (by omega) (by omega)).2], by rw [(f 409 (by omega) (by omega)).2]⟩, fun p _ => by rw [(f 410 (by omega) (by omega)).1]⟩, ⟨fun k q => by rw [(f k (by omega) (by omega)).1], by rw [(f 415 (by omega) (by omega)).2], fun i _ => ⟨by rw [(f 417 (by omega) (by omega)).1], by rw [(f 418 (by omega) (by omega)).2], by rw [(f 419 (by omega) (by omega)).2]⟩⟩⟩
theorem FyT.e (f : FyT y y') : EqTc n t y y' ∧ EqDc t y y' := ⟨⟨fun k q => by rw [(f.2 _ (by omega)).1], by rw [(f.2 _ (by omega)).2], by rw [(f.2 _ (by omega)).2], by rw [f.1], fun i _ => ⟨by rw [(f.2 _ (by omega)).1], by rw [(f.2 _ (by omega)).2], by rw [(f.2 _ (by omega)).2]⟩, fun k hk _ => (f.2 k (by omega)).1⟩, ⟨fun k q => by rw [(f.2 _ (by omega)).1], by rw [(f.2 _ (by omega)).2], fun i _ => ⟨by rw [(f.2 _ (by omega)).1], by rw [(f.2 _ (by omega)).2], by rw [(f.2 _ (by omega)).2]⟩⟩⟩
theorem fz_si {j : Nat} {v : Int32} (hj : j ≠ 3 ∧ j ≠ 5 ∧ j ≠ 9 ∧ j ≠ 22) : FzB z (si z 337 j v) ∧ FzT z (si z 337 j v) := ⟨⟨rfl, fun k a _ => ⟨si_ok a, rfl⟩, fun i q => si_oj (by omega), rfl⟩, fun k a b => ⟨si_ok (by omega), rfl⟩⟩
theorem fy_si {j : Nat} {v : Int32} : FyB y (si y 0 j v) ∧ FyT y (si y 0 j v) := ⟨⟨fun _ _ _ => rfl, fun k a => ⟨si_ok (by omega), rfl⟩⟩, rfl, fun k a => ⟨si_ok (by omega), rfl⟩⟩
theorem FzB.trans {z'' : St} (f : FzB z z') (g : FzB z' z'') : FzB z z'' := ⟨g.1.trans f.1, fun k a b => ⟨(g.2.1 k a b).1.trans (f.2.1 k a b).1, (g.2.1 k a b).2.trans (f.2.1 k a b).2⟩, fun j q => (g.2.2.1 j q).trans (f.2.2.1 j q), g.2.2.2.trans f.2.2.2⟩
theorem FyB.trans {y'' : St} (f : FyB y y') (g : FyB y' y'') : FyB y y'' := ⟨fun k j a => (g.1 k j a).trans (f.1 k j a), fun k a => ⟨(g.2 k a).1.trans (f.2 k a).1, (g.2 k a).2.trans (f.2 k a).2⟩⟩
theorem FzT.trans {z'' : St} (f : FzT z z') (g : FzT z' z'') : FzT z z'' := fun k a b => ⟨(g k a b).1.trans (f k a b).1, (g k a b).2.trans (f k a b).2⟩
theorem FyT.trans {y'' : St} (f : FyT y y') (g : FyT y' y'') : FyT y y'' := ⟨g.1.trans f.1, fun k a => ⟨(g.2 k a).1.trans (f.2 k a).1, (g.2 k a).2.trans (f.2 k a).2⟩⟩
theorem m_begin (h : Top RV sh n z y) : ∃ z' y' r, fn_X11_begin F sh n y 0 = some (y', r) ∧ fn_X18_begin F sh n z 337 = some (z', r) ∧ Top RV sh n z' y' := by
  obtain ⟨ws, wc, dp, bs, nc, ac, nr, rs, so, D, a1, a2, a3, ⟨cnt, dn, ⟨b1, b2, b3⟩, ⟨b4, b5, b6⟩, b7, b8, b9⟩, ⟨len, w, a5⟩, l2, a6⟩ := h
  have fz : FzB z (si (si z 337 52 0) 337 53 0) := (fz_si (by omega)).1.trans (fz_si (by omega)).1
  have fy : FyB y (si (si y 0 4 0) 0 5 0) := fy_si.1.trans fy_si.1
  refine ⟨si (si z 337 52 0) 337 53 0, si (si y 0 4 0) 0 5 0, nI cnt, ?_, ?_, ws, wc, dp, bs, nc, ac, nr, rs, so, D, a1.bk fz fy, a2.bk fz fy, a3.bk fy, ⟨0, 0, ⟨?_, ?_, by omega⟩, ⟨?_, ?_, by omega⟩, fun t ht => by omega, fun t ht => by omega, fun t _ ht => by omega⟩, ⟨len, w, a5.of ⟨?_, ?_, ?_⟩ ⟨?_, ?_, ?_⟩⟩, l2, a6.of ⟨?_, ?_⟩ ⟨?_, ?_⟩⟩
  · unfold fn_X11_begin
    rw [(b_ledg a1.2.1.1).1, grd_true, b2]; rfl
  · unfold fn_X18_begin
    rw [(b_model a1.1.1).1, grd_true, b1]; rfl
  · rw [si_oj (by omega), si_ss]; rfl
  · rw [si_oj (by omega), si_ss]; rfl
  · rw [si_ss]; rfl
  · rw [si_ss]; rfl
  all_goals first | rw [si_oj (by omega), si_oj (by omega)] | rw [si_ok (by omega), si_ok (by omega)]
theorem nI_leW {a b : Nat} (ha : a < 2 ^ 31) (hb : b < 2 ^ 31) : (nI a ≤ nI b) ↔ a ≤ b := by
  rw [Int32.le_iff_toInt_le, nI_toInt ha, nI_toInt hb]; omega
theorem nI_ltW {a b : Nat} (ha : a < 2 ^ 31) (hb : b < 2 ^ 31) : (nI a < nI b) ↔ a < b := by
  rw [Int32.lt_iff_toInt_lt, nI_toInt ha, nI_toInt hb]; omega
theorem m_weave (y0 : Int64) (hn : n ≤ 10 ^ 12) (h : Top RV sh n z y) : ∃ z' y' r, fn_X11_weave F sh n y 0 y0 = some (y', r) ∧ fn_X18_weave F sh n z 337 y0 = some (z', r) ∧ Top RV sh n z' y' := by
  have h0 := h
  obtain ⟨ws, wc, dp, bs, nc, ac, nr, rs, so, D, a1, a2, a3, ⟨cnt, dn, a4⟩, ⟨len, w, ⟨c1, c2, c3, c4, c5, c6⟩⟩, l2, a6⟩ := h
  unfold fn_X11_weave fn_X18_weave
  rw [(b_ledg a1.2.1.1).1, grd_true, (b_model a1.1.1).1, grd_true, c4, c5, show (16 : Int32) = nI 16 from rfl, nI_add]
  by_cases q : w + 16 ≤ 4096
  · have q' : nI (w + 16) ≤ 4096 := (nI_leW (b := 4096) (by omega) (by omega)).mpr q
    rw [if_pos q', if_pos q', lt_t, lt_t, si_ss, si_ss]
    refine ⟨_, _, _, rfl, rfl, ws, wc, dp, bs, nc, ac, nr, rs, so, D, a1.bk (fz_si (by omega)).1 fy_si.1, a2.bk (fz_si (by omega)).1 fy_si.1, a3.bk fy_si.1, ⟨cnt, dn, a4.of (si_oj (by omega)) (si_oj (by omega)) (si_oj (by omega)) (si_oj (by omega)) (fun t _ => (fz_si (by omega)).2.e) (fun t _ => fy_si.2.e) (Nat.le_refl _) (fun _ _ => rfl) hn⟩, ⟨len, w + 16, ⟨?_, ?_, ?_⟩, ?_, ?_, ?_, ?_, q⟩, l2, a6.of ⟨si_oj (by omega), si_ok (by omega)⟩ ⟨si_oj (by omega), si_ok (by omega)⟩⟩
    · rw [si_oj (by omega)]; exact c1.1
    · rw [si_oj (by omega)]; exact c1.2.1
    · exact c1.2.2
    · rw [si_ok (by omega), si_ok (by omega)]; exact c2
    · rw [si_ok (by omega)]; exact c3
    · rw [si_ss]
    · rw [si_ss]
  · have q' : ¬ nI (w + 16) ≤ 4096 := fun e => q ((nI_leW (b := 4096) (by omega) (by omega)).mp e)
    rw [if_neg q', if_neg q']
    exact ⟨_, _, _, rfl, rfl, h0⟩
theorem m_unweave (hn : n ≤ 10 ^ 12) (h : Top RV sh n z y) : ∃ z' y' r, fn_X11_unweave F sh n y 0 = some (y', r) ∧ fn_X18_unweave F sh n z 337 = some (z', r) ∧ Top RV sh n z' y' := by
  obtain ⟨ws, wc, dp, bs, nc, ac, nr, rs, so, D, a1, a2, a3, ⟨cnt, dn, a4⟩, ⟨len, w, ⟨c1, c2, c3, c4, c5, c6⟩⟩, l2, a6⟩ := h
  unfold fn_X11_unweave fn_X18_unweave
  rw [(b_ledg a1.2.1.1).1, grd_true, (b_model a1.1.1).1, grd_true, c4, c5, lt_t, lt_t, lt_t, lt_t]
  refine ⟨_, _, _, rfl, rfl, ws, wc, dp, bs, nc, ac, nr, rs, so, D, a1.bk (fz_si (by omega)).1 fy_si.1, a2.bk (fz_si (by omega)).1 fy_si.1, a3.bk fy_si.1, ⟨cnt, dn, a4.of (si_oj (by omega)) (si_oj (by omega)) (si_oj (by omega)) (si_oj (by omega)) (fun t _ => (fz_si (by omega)).2.e) (fun t _ => fy_si.2.e) (Nat.le_refl _) (fun _ _ => rfl) hn⟩, ⟨len, 0, ⟨?_, ?_, ?_⟩, ?_, ?_, ?_, ?_, by omega⟩, l2, a6.of ⟨si_oj (by omega), si_ok (by omega)⟩ ⟨si_oj (by omega), si_ok (by omega)⟩⟩
  · rw [si_oj (by omega)]; exact c1.1
  · rw [si_oj (by omega)]; exact c1.2.1
  · exact c1.2.2
  · rw [si_ok (by omega), si_ok (by omega)]; exact c2
  · rw [si_ok (by omega)]; exact c3
  · rw [si_ss]; rfl
  · rw [si_ss]; rfl
end
