/-! A CALL'S END: both sides -/
theorem RLg.of {z z' : St} {nc : Nat} {ac : Nat → Int64 × Int64 × Int64} {nr : Nat} {rs : Nat → Int64 × Nat × Hp × Nat} (h : RLg z nc ac nr rs) (k : ∀ c, 338 ≤ c → c ≤ 348 → z'.1 c = z.1 c ∧ z'.2.1 c = z.2.1 c) (f3 : z'.1 337 3 = z.1 337 3) (f9 : z'.1 337 9 = z.1 337 9) : RLg z' nc ac nr rs := by
  obtain ⟨⟨a1, a2, a3⟩, b1, b2, b3⟩ := h
  refine ⟨⟨by rw [f3]; exact a1, a2, fun i hi => ?_⟩, by rw [f9]; exact b1, b2, fun i hi => ?_⟩
  · rw [(k 338 (by omega) (by omega)).2, (k 339 (by omega) (by omega)).2, (k 340 (by omega) (by omega)).2]; exact a3 i hi
  · rw [(k 343 (by omega) (by omega)).2, (k 344 (by omega) (by omega)).1]
    obtain ⟨c1, c2, c3, c4, c5, c6⟩ := b3 i hi
    refine ⟨c1, c2, c3, c4, c5, fun w w1 w2 => ?_⟩
    rw [(k 345 (by omega) (by omega)).1, (k 346 (by omega) (by omega)).2, (k 347 (by omega) (by omega)).2, (k 348 (by omega) (by omega)).1]
    exact c6 w w1 w2
/-- what a call's end leaves alone, the reference's side -/
def FrQ (t : Nat) (z z' : St) : Prop := z'.2.2 = z.2.2 ∧ (∀ k, k ≠ 337 → k ≠ 388 → ¬ (338 ≤ k ∧ k ≤ 348 ∧ k ≠ 341 ∧ k ≠ 342) → ¬ (416 ≤ k ∧ k ≤ 419) → z'.1 k = z.1 k ∧ z'.2.1 k = z.2.1 k) ∧ (∀ j, ¬ mfl j → j ≠ 3 → j ≠ 9 → z'.1 337 j = z.1 337 j ∧ z'.2.1 337 j = z.2.1 337 j) ∧ (∀ j, ¬ mfl j → z'.2.1 337 j = z.2.1 337 j) ∧ (∀ j, j ≠ t → z'.1 416 j = z.1 416 j) ∧ ∀ k j, 417 ≤ k → k ≤ 419 → ¬ (8 * t ≤ j ∧ j < 8 * t + 8) → z'.1 k j = z.1 k j ∧ z'.2.1 k j = z.2.1 k j
theorem FrQ.rfl' {t : Nat} {z : St} : FrQ t z z := ⟨rfl, fun _ _ _ _ _ => ⟨rfl, rfl⟩, fun _ _ _ _ => ⟨rfl, rfl⟩, fun _ _ => rfl, fun _ _ => rfl, fun _ _ _ _ _ => ⟨rfl, rfl⟩⟩
theorem FrQ.trans {t : Nat} {z z' z'' : St} (f : FrQ t z z') (g : FrQ t z' z'') : FrQ t z z'' := ⟨g.1.trans f.1, fun k a b c d => ⟨(g.2.1 k a b c d).1.trans (f.2.1 k a b c d).1, (g.2.1 k a b c d).2.trans (f.2.1 k a b c d).2⟩, fun j a b c => ⟨(g.2.2.1 j a b c).1.trans (f.2.2.1 j a b c).1, (g.2.2.1 j a b c).2.trans (f.2.2.1 j a b c).2⟩, fun j a => (g.2.2.2.1 j a).trans (f.2.2.2.1 j a), fun j a => (g.2.2.2.2.1 j a).trans (f.2.2.2.2.1 j a), fun k j a b c => ⟨(g.2.2.2.2.2 k j a b c).1.trans (f.2.2.2.2.2 k j a b c).1, (g.2.2.2.2.2 k j a b c).2.trans (f.2.2.2.2.2 k j a b c).2⟩⟩
theorem FrV.q {t : Nat} {z z' : St} (f : FrV (8 * t) (8 * t + 8) z z') : FrQ t z z' := ⟨f.1, fun k _ _ _ d => f.2.1 k (by omega), fun j _ _ _ => ⟨by rw [(f.2.1 337 (by omega)).1], by rw [(f.2.1 337 (by omega)).2]⟩, fun j _ => by rw [(f.2.1 337 (by omega)).2], fun j _ => by rw [(f.2.1 416 (by omega)).1], fun k j _ _ c => f.2.2 k j c⟩
theorem FrG.q {t : Nat} {z z' : St} (f : FrG z z') : FrQ t z z' := ⟨f.1, fun k a _ c _ => f.2.1 k a c, fun j a b c => ⟨f.2.2.1 j b c (fun q => a (by subst q; simp [mfl])), by rw [f.2.2.2]⟩, fun j _ => by rw [f.2.2.2], fun j _ => by rw [(f.2.1 416 (by omega) (by omega)).1], fun k j a b _ => ⟨by rw [(f.2.1 k (by omega) (by omega)).1], by rw [(f.2.1 k (by omega) (by omega)).2]⟩⟩
theorem FrQ.s416 {t : Nat} {z : St} {v : Int32} : FrQ t z (si z 416 t v) := ⟨rfl, fun k a b c d => ⟨by funext j; rw [si_ok (by omega)], rfl⟩, fun j _ _ _ => ⟨by rw [si_ok (by omega)], rfl⟩, fun _ _ => rfl, fun j q => by rw [si_oj q], fun k j a b c => ⟨by rw [si_ok (by omega)], rfl⟩⟩
theorem FrQ.s388 {t : Nat} {z : St} {v : Int64} : FrQ t z (sl z 388 0 v) := ⟨rfl, fun k a b c d => ⟨rfl, by funext j; rw [sl_ok b]⟩, fun j _ _ _ => ⟨rfl, by rw [sl_ok (by omega)]⟩, fun _ _ => by rw [sl_ok (by omega)], fun j q => rfl, fun k j a b c => ⟨rfl, by rw [sl_ok (by omega)]⟩⟩
theorem RAs.s0 {z : St} {na lim : Nat} {ak : Nat → Ask} (h : RAs z na ak) : RAs (sl z 388 0 ((ak 0).2.2.2.1 + lN lim)) na (akS ak lim) := by
  obtain ⟨h1, h2, h3⟩ := h
  refine ⟨h1, h2, fun j hj => ?_⟩
  obtain ⟨s1, s2, s3, s4, s5⟩ := akS_n ak lim j
  obtain ⟨q1, q2, q3, q4, q5, q6⟩ := h3 j hj
  rw [s1, s2, s3, s4, s5]
  refine ⟨q1, by rw [sl_ok (by omega)]; exact q2, q3, ?_, q5, q6⟩
  by_cases c : j = 0
  · subst c; rw [sl_ss, if_pos rfl]
  · rw [sl_oj c, if_neg c]; exact q4
/-- what a call's end leaves alone, the class's side -/
def FrP (kt : Nat) (z z' : St) : Prop := z'.2.2 = z.2.2 ∧ (∀ k, ¬ (3 ≤ k ∧ k ≤ 14) → k ≠ 87 → k ≠ kt → ¬ (kt + 4 ≤ k ∧ k ≤ kt + 6) → z'.1 k = z.1 k ∧ z'.2.1 k = z.2.1 k) ∧ (∀ j, j ≠ 3 → j ≠ 10 → z'.1 3 j = z.1 3 j) ∧ z'.2.1 3 = z.2.1 3 ∧ (z'.1 7 = z.1 7 ∧ z'.1 87 18 = z.1 87 18) ∧ (∀ j, j ≠ 11 → j ≠ 13 → j ≠ 15 → z'.1 kt j = z.1 kt j) ∧ ∀ j, j ≠ 12 → z'.2.1 kt j = z.2.1 kt j
theorem FrP.rfl' {kt : Nat} {z : St} : FrP kt z z := ⟨rfl, fun _ _ _ _ _ => ⟨rfl, rfl⟩, fun _ _ _ => rfl, rfl, ⟨rfl, rfl⟩, fun _ _ _ _ => rfl, fun _ _ => rfl⟩
theorem FrP.trans {kt : Nat} {z z' z'' : St} (f : FrP kt z z') (g : FrP kt z' z'') : FrP kt z z'' := ⟨g.1.trans f.1, fun k a b c d => ⟨(g.2.1 k a b c d).1.trans (f.2.1 k a b c d).1, (g.2.1 k a b c d).2.trans (f.2.1 k a b c d).2⟩, fun j a b => (g.2.2.1 j a b).trans (f.2.2.1 j a b), g.2.2.2.1.trans f.2.2.2.1, ⟨g.2.2.2.2.1.1.trans f.2.2.2.2.1.1, g.2.2.2.2.1.2.trans f.2.2.2.2.1.2⟩, fun j a b c => (g.2.2.2.2.2.1 j a b c).trans (f.2.2.2.2.2.1 j a b c), fun j a => (g.2.2.2.2.2.2 j a).trans (f.2.2.2.2.2.2 j a)⟩
theorem FrU.p {kt p : Nat} {z z' : St} (h : 113 ≤ kt) (f : FrU kt p z z') : FrP kt z z' := ⟨f.1, fun k _ _ c d => f.2.1 k c d, fun j _ _ => by rw [(f.2.1 3 (by omega) (by omega)).1], by rw [(f.2.1 3 (by omega) (by omega)).2], ⟨by rw [(f.2.1 7 (by omega) (by omega)).1], by rw [(f.2.1 87 (by omega) (by omega)).1]⟩, fun j _ _ c => f.2.2.1 j c, fun j _ => by rw [f.2.2.2.1]⟩
theorem FrLc.p {kt : Nat} {z z' : St} (h : 113 ≤ kt) (f : FrLc z z') : FrP kt z z' := ⟨f.1, fun k a _ _ _ => f.2.1 k a, f.2.2.1, f.2.2.2.1, ⟨f.2.2.2.2, by rw [(f.2.1 87 (by omega)).1]⟩, fun j _ _ _ => by rw [(f.2.1 kt (by omega)).1], fun j _ => by rw [(f.2.1 kt (by omega)).2]⟩
/-- a transaction's outcome -/
def txE (z : St) (kt o : Nat) (c : Int64) (g : Nat) : St := si (sl (si z kt 11 (nI o)) kt 12 c) kt 13 (nI g)
theorem txE_p {kt o g : Nat} {z : St} {c : Int64} (h : 113 ≤ kt) : FrP kt z (txE z kt o c g) := by
  unfold txE
  refine ⟨rfl, fun k a b d e => ⟨by funext j; rw [si_ok d, sl_1, si_ok d], by funext j; rw [si_2, sl_ok d, si_2]⟩, fun j _ _ => by rw [si_ok (by omega), sl_1, si_ok (by omega)], by funext j; rw [si_2, sl_ok (by omega), si_2], ⟨by funext j; rw [si_ok (by omega), sl_1, si_ok (by omega)], by rw [si_ok (by omega), sl_1, si_ok (by omega)]⟩, fun j a b c => by rw [si_oj b, sl_1, si_oj a], fun j a => by rw [si_2, sl_oj a, si_2]⟩
theorem txE_v {kt o g : Nat} {z : St} {c : Int64} : (txE z kt o c g).1 kt 11 = nI o ∧ (txE z kt o c g).2.1 kt 12 = c ∧ (txE z kt o c g).1 kt 13 = nI g ∧ ∀ j, j ≠ 11 → j ≠ 13 → (txE z kt o c g).1 kt j = z.1 kt j := by
  unfold txE
  exact ⟨by rw [si_oj (by omega), sl_1, si_ss], by rw [si_2, sl_ss], si_ss, fun j a b => by rw [si_oj b, sl_1, si_oj a]⟩
theorem CLg.txE {z : St} {kt o g nc nr : Nat} {c : Int64} {ac : Nat → Int64 × Int64 × Int64} {so : Nat → Option Rsc} (hk : 113 ≤ kt) (h : CLg z nc ac nr so) : CLg (txE z kt o c g) nc ac nr so := h.of (fun k a b => by
  unfold Jvm.Pilot.CResourceLedgerLaw_law_r8937_d13e27.txE
  exact ⟨by funext j; rw [si_ok (by omega), sl_1, si_ok (by omega)], by funext j; rw [si_2, sl_ok (by omega), si_2]⟩)
section
variable {F n : Nat} {sh : Nat → Nat × Nat}
theorem run256 {z : St} {kt o g : Nat} {c : Int64} (h13 : z.2.2 87 13 = some kt) (ok : okO sh n kt 8 = true) (h87 : kt ≠ 87) (h16 : z.1 87 16 = nI o) (h17 : z.2.1 87 17 = c) (h14 : z.1 87 14 = nI g) : fn_X4_run_B284 F sh n 87 z = some (txE z kt o c g, ()) := by
  unfold fn_X4_run_B284
  rw [h13, lnk_s, ok, grd_true, h16, h17, h14]
  unfold fn_X8_end
  rw [ok, grd_true, lt_t, lt_t, lt_t, cal_s]
  rfl
end
