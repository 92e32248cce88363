/-! ONE MODULE MORE -/
def wsN (ws : Nat → Md) (u : Nat) (U : Md) : Nat → Md := fun i => if i = u then U else ws i
def dpN (dp : Nat → Nat → Nat) (u : Nat) (D : Nat → Nat) : Nat → Nat → Nat := fun i => if i = u then D else dp i
theorem wsN_u {ws : Nat → Md} {u : Nat} {U : Md} : wsN ws u U u = U := if_pos rfl
theorem wsN_o {ws : Nat → Md} {u i : Nat} {U : Md} (h : i ≠ u) : wsN ws u U i = ws i := if_neg h
theorem dpN_u {dp : Nat → Nat → Nat} {u : Nat} {D : Nat → Nat} : dpN dp u D u = D := if_pos rfl
theorem dpN_o {dp : Nat → Nat → Nat} {u i : Nat} {D : Nat → Nat} (h : i ≠ u) : dpN dp u D i = dp i := if_neg h
theorem msF_21 {ws : Nat → Md} {wc : Nat} {dp : Nat → Nat → Nat} {U : Md} (h : msF ws wc dp U = none) : U.1.1 ≠ 0 ∧ wfi ws U.1.1 (wc + 1) 0 = none := by
  unfold msF at h
  by_cases c : U.1.1 = 0 ∨ (wfi ws U.1.1 (wc + 1) 0).isSome = true
  · rw [if_pos c] at h; cases h
  · refine ⟨fun y => c (.inl y), ?_⟩
    cases e : wfi ws U.1.1 (wc + 1) 0 with
    | none => rfl
    | some i => exact absurd (.inr (by rw [e]; rfl)) c
theorem vdM_n {ws : Nat → Md} {wc : Nat} {dp : Nat → Nat → Nat} {b : Nat → Nat} {len : Nat} (h : vdM ws wc dp b len = none) : ∃ q, pAll b len = .ok q ∧ jM b q.1 = none ∧ msF ws wc dp (mdOf b q.1) = none ∧ rdMd b len = none := by
  unfold vdM at h
  cases e : rdMd b len with
  | some x => rw [e] at h; cases h
  | none =>
    obtain ⟨q, c1, c2⟩ := rdMd_n e
    rw [e, c1] at h
    exact ⟨q, c1, c2, h, rfl⟩
theorem TkR.none {z' : St} {r : Flt} (h : TkR z' 0 r) : r = none := by
  cases r with
  | none => rfl
  | some e =>
    obtain ⟨h1, h2, h3, _⟩ := h
    exact absurd h1.symm (nI_ne0 h2 (by omega))
theorem TkC.none {z' : St} {t : Nat} {r : Flt} (h : TkC z' t 0 r) : r = none := by
  cases r with
  | none => rfl
  | some e =>
    obtain ⟨h1, h2, h3, _⟩ := h
    exact absurd h1.symm (nI_ne0 h2 (by omega))
section
variable {F n : Nat} {sh : Nat → Nat × Nat} {z z' : St} {kp kb len t : Nat} {b : Nat → Nat} {M : MP} {ws : Nat → Md} {wc : Nat} {dp : Nat → Nat → Nat} {U : Md}
theorem WNo.new (h : WNo ws wc) (hn : U.1.1 < 65536) (hf : wfi ws U.1.1 (wc + 1) 0 = none) : WNo (wsN ws (wc + 1) U) (wc + 1) := by
  have nf := wfi_n hf
  refine ⟨by rw [wsN_o (by omega)]; exact h.1, fun i hi => ?_, fun i j hi hj e => ?_⟩
  · by_cases c : i = wc + 1
    · rw [c, wsN_u]; exact hn
    · rw [wsN_o c]; exact h.2.1 i (by omega)
  · by_cases c : i = wc + 1
    · by_cases d : j = wc + 1
      · omega
      · rw [c, wsN_u, wsN_o d] at e
        exact absurd e.symm (nf j (by omega) (by omega))
    · by_cases d : j = wc + 1
      · rw [d, wsN_u, wsN_o c] at e
        exact absurd e (nf i (by omega) (by omega))
      · rw [wsN_o c, wsN_o d] at e
        exact h.2.2 i j (by omega) (by omega) e
/-- the reference's modules, one more -/
theorem RWo.new (h : RWo sh n z ws wc dp) (hw : wc < 8) (hn : RNw sh n z (wc + 1) b len ws wc dp) : ∃ q, pAll b len = .ok q ∧ RWo sh n (si z 337 5 (nI (wc + 1))) (wsN ws (wc + 1) (mdOf b q.1)) (wc + 1) (dpN dp (wc + 1) (mAll ws wc dp (mdOf b q.1))) := by
  obtain ⟨q, c1, c2, c3, c4, c5, c6⟩ := hn
  obtain ⟨h1, h2, h3, h4⟩ := h
  have L' : Lay sh n (si z 337 5 (nI (wc + 1))) := h1.of rfl
  refine ⟨q, c1, L', si_ss, by omega, fun i q1 q2 => ?_⟩
  by_cases c : i = wc + 1
  · subst c
    rw [wsN_u, dpN_u]
    refine ⟨⟨b, len, q.1, c4.fmk L' (fun k k1 k2 => si_ok (by omega)), rfl, c2, c3, pAll_a c1⟩, fun s hs => ?_⟩
    have hs' : s < q.1.1.length := hs
    rw [si_ok (by omega)]
    exact ⟨c5 s (by omega), c6 s hs'⟩
  · rw [wsN_o c, dpN_o c]
    obtain ⟨⟨b', len', M', d1, d2⟩, d3⟩ := h4 i q1 (by omega)
    exact ⟨⟨b', len', M', d1.fmk L' (fun k k1 k2 => si_ok (by omega)), d2⟩, fun s hs => by rw [si_ok (by omega)]; exact d3 s hs⟩
/-- the class's modules, one more -/
theorem CWo.new (h : CWo sh n z ws wc dp) (hw : wc < 8) (hkb : 513 ≤ kb) (hn : CNw sh n z (15 + 5 * (wc + 1)) kb b len ws wc dp) : ∃ q, pAll b len = .ok q ∧ CWo sh n (si z 3 5 (nI (wc + 1))) (wsN ws (wc + 1) (mdOf b q.1)) (wc + 1) (dpN dp (wc + 1) (mAll ws wc dp (mdOf b q.1))) := by
  obtain ⟨q, c1, c2, c3, c4, c5, c6⟩ := hn
  obtain ⟨h1, h2, h3, h4⟩ := h
  have L' : Lay sh n (si z 3 5 (nI (wc + 1))) := h1.of rfl
  refine ⟨q, c1, L', si_ss, by omega, fun i hi => ?_⟩
  by_cases c : i = wc + 1
  · subst c
    rw [wsN_u, dpN_u]
    refine ⟨⟨kb, b, len, q.1, c4.of2 L' rfl (fun k q1 q2 => ⟨si_ok (by omega), rfl⟩) (si_ok (by omega)), rfl, hkb, c2, c3⟩, fun s hs => ?_⟩
    have hs' : s < q.1.1.length := hs
    rw [si_ok (by omega)]
    exact ⟨c5 s (by omega), c6 s hs'⟩
  · rw [wsN_o c, dpN_o c]
    obtain ⟨⟨kb', b', len', M', d1, d2, d3⟩, d4⟩ := h4 i (by omega)
    exact ⟨⟨kb', b', len', M', d1.of2 L' rfl (fun k q1 q2 => ⟨si_ok (by omega), rfl⟩) (si_ok (by omega)), d2, d3⟩, fun s hs => by rw [si_ok (by omega)]; exact d4 s hs⟩
end
