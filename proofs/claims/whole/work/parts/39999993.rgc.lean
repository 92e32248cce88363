/-! THE REFERENCE'S LEDGER: what asking comes to; a place is changed -/
def AskTo (nc : Nat) (ac : Nat → Int64 × Int64 × Int64) (nr : Nat) (rs : Nat → Int64 × Nat × Hp × Nat) (H : Hp) (m na : Nat) (ak : Nat → Ask) (s : Nat) (a : Int64) (k : Nat) (H' : Hp) (m' na' : Nat) (ak' : Nat → Ask) (j : Nat) : Prop := (fdK na ak s a k na 0 = some j ∧ H' = H ∧ m' = m ∧ na' = na ∧ ak' = ak) ∨ (fdK na ak s a k na 0 = none ∧ na < 24 ∧ na' = na + 1 ∧ j = na ∧ ((s = 1 ∧ k = 0 ∧ H' = H ∧ m' = m ∧ ak' = upA ak na (1, a, 0, acB nc ac a, acT nc ac a, 0)) ∨ ((s = 2 ∨ (s = 3 ∧ fdR nr rs a k = none)) ∧ H' = H ∧ m' = m ∧ ak' = upA ak na (s, a, k, 0, false, 0)) ∨ (s = 3 ∧ ∃ i, fdR nr rs a k = some i ∧ H' = ldH H m (rs i).2.2.1 0 (rs i).2.2.2 ∧ m' = m + (rs i).2.2.2 ∧ ak' = upA ak na (3, a, k, 0, true, m))))
def AkB (na : Nat) (ak : Nat → Ask) : Prop := ∀ j, j < na → (ak j).1 < 2 ^ 31 ∧ (ak j).2.2.1 < 2 ^ 31
section
variable {F n : Nat} {sh : Nat → Nat × Nat} {z z' : St} {H : Hp} {m : Nat} {fr : Nat → Fm} {nf na : Nat} {ak : Nat → Ask} {g lim : Nat} {nc nr : Nat} {ac : Nat → Int64 × Int64 × Int64} {rs : Nat → Int64 × Nat × Hp × Nat}
theorem AskTo.at {H' : Hp} {m' na' : Nat} {ak' : Nat → Ask} {s k j : Nat} {a : Int64} (h : AskTo nc ac nr rs H m na ak s a k H' m' na' ak' j) : j < na' ∧ (ak' j).1 = s ∧ (ak' j).2.1 = a ∧ (ak' j).2.2.1 = k := by
  rcases h with ⟨e, rfl, rfl, rfl, rfl⟩ | ⟨e, hn, rfl, rfl, w⟩
  · obtain ⟨_, b, c⟩ := fd_lt _ _ _ e
    simp only [Bool.and_eq_true, decide_eq_true_eq] at c
    exact ⟨by omega, c.1, c.2.1, c.2.2⟩
  · refine ⟨by omega, ?_⟩
    rcases w with ⟨e1, e2, _, _, e3⟩ | ⟨_, _, _, e3⟩ | ⟨e1, i, _, _, _, e3⟩
    · rw [e3, upA_s]; exact ⟨e1.symm, rfl, e2.symm⟩
    · rw [e3, upA_s]; exact ⟨rfl, rfl, rfl⟩
    · rw [e3, upA_s]; exact ⟨e1.symm, rfl, rfl⟩
theorem AskTo.akB {H' : Hp} {m' na' : Nat} {ak' : Nat → Ask} {s k j : Nat} {a : Int64} (h : AskTo nc ac nr rs H m na ak s a k H' m' na' ak' j) (hb : AkB na ak) (hs : s < 2 ^ 31) (hk : k < 2 ^ 31) : AkB na' ak' := by
  have w := h.at
  rcases h with ⟨e, rfl, rfl, rfl, rfl⟩ | ⟨e, hn, rfl, rfl, x⟩
  · exact hb
  · intro i hi
    by_cases q : i = j
    · subst q; obtain ⟨_, w1, _, w3⟩ := w; rw [w1, w3]; exact ⟨hs, hk⟩
    · have : ak' i = ak i := by
        rcases x with ⟨_, _, _, _, e3⟩ | ⟨_, _, _, e3⟩ | ⟨_, _, _, _, _, e3⟩ <;> rw [e3, upA_n q]
      rw [this]; exact hb i (by omega)
/-- ask -/
theorem RM.ask (hF : 300 ≤ F) (h : RM sh n z H m fr nf na ak g lim) (hl : RLg z nc ac nr rs) (hw : Nw H m) (hb : AkB na ak) {s k : Nat} {a : Int64} (hs : (s = 1 ∧ k = 0) ∨ s = 2 ∨ s = 3) (hk : k < 2 ^ 31) (hm : m + 64 ≤ 24576) : ((fdK na ak s a k na 0 = none ∧ na = 24) ∧ ∃ z', fn_X18_ask F sh n z 337 (nI s) a (nI k) = some (z', -1) ∧ RE sh n z' 2 4 g ∧ FrR z z') ∨ ∃ z' H' m' na' ak' j, fn_X18_ask F sh n z 337 (nI s) a (nI k) = some (z', nI j) ∧ AskTo nc ac nr rs H m na ak s a k H' m' na' ak' j ∧ RM sh n z' H' m' fr nf na' ak' g lim ∧ FrR z z' := by
  have n24 := h.2.2.2.2.1.2.1
  cases e : fdK na ak s a k na 0 with
  | some j => exact .inr ⟨z, H, m, na, ak, j, h.askF hF hb (by omega) hk e, .inl ⟨e, rfl, rfl, rfl, rfl⟩, h, FrR.rfl'⟩
  | none =>
    by_cases hn : na = 24
    · obtain ⟨z', p1, p2, p3⟩ := h.askE hF hb (by omega) hk e hn
      exact .inl ⟨⟨rfl, hn⟩, z', p1, p2, p3⟩
    · rcases hs with ⟨e1, e2⟩ | hs
      · subst e1 e2
        obtain ⟨z', p1, p2, p3⟩ := h.ask1 hF hl hb e (by omega)
        exact .inr ⟨z', _, _, _, _, na, p1, .inr ⟨e, by omega, rfl, rfl, .inl ⟨rfl, rfl, rfl, rfl, rfl⟩⟩, p2, p3⟩
      · have cs : (s = 2 ∨ (s = 3 ∧ fdR nr rs a k = none)) ∨ (s = 3 ∧ ∃ i, fdR nr rs a k = some i) := by
          rcases hs with e1 | e1
          · exact .inl (.inl e1)
          · cases q : fdR nr rs a k with
            | none => exact .inl (.inr ⟨e1, rfl⟩)
            | some i => exact .inr ⟨e1, i, rfl⟩
        rcases cs with c | ⟨e1, i, c⟩
        · obtain ⟨z', p1, p2, p3⟩ := h.ask0 hF hl hb hk c e (by omega)
          exact .inr ⟨z', _, _, _, _, na, p1, .inr ⟨e, by omega, rfl, rfl, .inr (.inl ⟨c, rfl, rfl, rfl⟩)⟩, p2, p3⟩
        · subst e1
          obtain ⟨_, ilt, _⟩ := fd_lt _ _ _ c
          obtain ⟨_, _, _, _, c5, _⟩ := hl.2.2.2 i (by omega)
          obtain ⟨z', p1, p2, p3⟩ := h.ask3 hF hl hw hb hk c e (by omega) (by omega)
          exact .inr ⟨z', _, _, _, _, na, p1, .inr ⟨e, by omega, rfl, rfl, .inr (.inr ⟨rfl, i, c, rfl, rfl, rfl⟩)⟩, p2, p3⟩
/-- a place is changed -/
theorem RM.chg (h : RM sh n z H m fr nf na ak g lim) {j : Nat} (hj : j < na) {x : Ask} (e0 : z'.2.2 = z.2.2) (e1 : ∀ k, ¬ (388 ≤ k ∧ k ≤ 390) → z'.1 k = z.1 k ∧ z'.2.1 k = z.2.1 k) (e2 : ∀ k i, 388 ≤ k → k ≤ 390 → i ≠ j → z'.1 k i = z.1 k i ∧ z'.2.1 k i = z.2.1 k i) (x1 : x.1 = (ak j).1) (x2 : x.2.1 = (ak j).2.1) (x3 : x.2.2.1 = (ak j).2.2.1) (r4 : z'.2.1 388 j = x.2.2.2.1) (r5 : z'.1 390 j = bI x.2.2.2.2.1) (r6 : x.1 = 3 → x.2.2.2.2.1 = true → z'.1 389 j = nI x.2.2.2.2.2) : RM sh n z' H m fr nf na (upA ak j x) g lim ∧ FrR z z' := by
  obtain ⟨hL, hr, hM, hf, ha, g1, g2, g3, g4⟩ := h
  have e337 := e1 337 (by omega)
  refine ⟨⟨hL.of e0, by unfold Run; rw [e337.1]; exact hr, hM.fr (fun k a b => (e1 k (by omega)).1) (fun k a b => (e1 k (by omega)).2), hf.of (by rw [e337.1]) (by rw [e337.1]) (fun c a b => (e1 c (by omega)).1), ⟨by rw [e337.1]; exact ha.1, ha.2.1, fun i hi => ?_⟩, by rw [e337.1]; exact g1, by rw [e337.1]; exact g2, g3, g4⟩, ⟨e0, fun k k1 k2 => e1 k (fun q => k2 (.inr (.inr (by omega)))), fun i hi => by rw [e337.1, e337.2]; exact ⟨rfl, rfl⟩⟩⟩
  obtain ⟨a1, a2, a3, a4, a5, a6⟩ := ha.2.2 i hi
  rw [(e1 385 (by omega)).1, (e1 386 (by omega)).2, (e1 387 (by omega)).1]
  by_cases q : i = j
  · subst q
    rw [upA_s]
    exact ⟨by rw [x1]; exact a1, by rw [x2]; exact a2, by rw [x3]; exact a3, r4, r5, r6⟩
  · rw [upA_n q, (e2 388 i (by omega) (by omega) q).2, (e2 389 i (by omega) (by omega) q).1, (e2 390 i (by omega) (by omega) q).1]
    exact ⟨a1, a2, a3, a4, a5, a6⟩
/-- a resource is put, or taken away -/
theorem RM.setA (h : RM sh n z H m fr nf na ak g lim) {j : Nat} (hj : j < na) (th : Bool) (v : Int32) (y : Nat) (hv : th = true → v = nI y) : RM sh n (si (si z 390 j (bI th)) 389 j v) H m fr nf na (upA ak j ((ak j).1, (ak j).2.1, (ak j).2.2.1, (ak j).2.2.2.1, th, y)) g lim ∧ FrR z (si (si z 390 j (bI th)) 389 j v) := by
  refine h.chg hj rfl (fun k hk => ⟨?_, rfl⟩) (fun k i k1 k2 hi => ⟨?_, rfl⟩) rfl rfl rfl (h.2.2.2.2.1.2.2 j hj).2.2.2.1 (by simp [si_1]) (fun _ q => by simp [si_1]; exact hv q)
  · funext i; simp [si_1, show k ≠ 390 by omega, show k ≠ 389 by omega]
  · simp only [si_1, if_neg hi]
    (repeat' split) <;> first | rfl | (rename_i e; subst e; rfl) | (rename_i e _; subst e; rfl) | simp_all
/-- a balance is changed -/
theorem RM.setB (h : RM sh n z H m fr nf na ak g lim) {j : Nat} (hj : j < na) (h3 : (ak j).1 ≠ 3) (b : Int64) : RM sh n (sl z 388 j b) H m fr nf na (upA ak j ((ak j).1, (ak j).2.1, (ak j).2.2.1, b, (ak j).2.2.2.2.1, (ak j).2.2.2.2.2)) g lim ∧ FrR z (sl z 388 j b) := by
  refine h.chg hj rfl (fun k hk => ⟨rfl, ?_⟩) (fun k i k1 k2 hi => ⟨rfl, ?_⟩) rfl rfl rfl (by simp [sl_2]) (h.2.2.2.2.1.2.2 j hj).2.2.2.2.1 (fun q => absurd q h3)
  · funext i; simp [sl_2, show k ≠ 388 by omega]
  · simp only [sl_2, if_neg hi]
    split
    · rename_i e; subst e; rfl
    · rfl
theorem RM.setT (h : RM sh n z H m fr nf na ak g lim) {j : Nat} (hj : j < na) (h3 : (ak j).1 ≠ 3) : RM sh n (si z 390 j (bI true)) H m fr nf na (upA ak j ((ak j).1, (ak j).2.1, (ak j).2.2.1, (ak j).2.2.2.1, true, (ak j).2.2.2.2.2)) g lim ∧ FrR z (si z 390 j (bI true)) := by
  refine h.chg hj rfl (fun k hk => ⟨?_, rfl⟩) (fun k i k1 k2 hi => ⟨?_, rfl⟩) rfl rfl rfl (h.2.2.2.2.1.2.2 j hj).2.2.2.1 (by simp [si_1]) (fun q => absurd q h3)
  · funext i; simp [si_1, show k ≠ 390 by omega]
  · simp only [si_1, if_neg hi]
    split
    · rename_i e; subst e; rfl
    · rfl
end
