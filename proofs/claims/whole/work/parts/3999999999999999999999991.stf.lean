/-! THE WORLD OF MODULES: one module more -/
theorem dT_cg {D D' : Nat → Nat} {t : Ty} (h : ∀ s, endS t = some s → D s = D' s) : dT D t = dT D' t := by
  unfold dT
  cases e : endS t with
  | none => rfl
  | some s => show D s + _ = D' s + _; rw [h s e]
theorem msF_n {ws : Nat → Md} {wc : Nat} {dp : Nat → Nat → Nat} {U : Md} (h : msF ws wc dp U = none) : (∀ s, U.1.2.1 ≤ s → s < U.1.2.1 + (U.1.2.2 - U.1.2.1) → strOk ws wc U s = true) ∧ (∀ k, k < faOf U - fsOf U → fnOk ws wc U (fsOf U + k) = true) ∧ (∀ s, s < U.1.2.1 → wkOk U s = true) ∧ (∀ s, s < U.1.2.1 → mAll ws wc dp U s ≤ 24) ∧ lookA U (fsOf U) 0 = none := by
  unfold msF at h
  by_cases c : U.1.1 = 0 ∨ (wfi ws U.1.1 (wc + 1) 0).isSome = true
  · rw [if_pos c] at h; cases h
  · rw [if_neg c] at h
    cases e1 : fbad (strOk ws wc U) (U.1.2.2 - U.1.2.1) U.1.2.1 with
    | some p => rw [e1] at h; cases h
    | none =>
      rw [e1] at h
      cases e2 : fbad (fun k => fnOk ws wc U (fsOf U + k)) (faOf U - fsOf U) 0 with
      | some p =>
        have h' : (match fbad (fun k => fnOk ws wc U (fsOf U + k)) (faOf U - fsOf U) 0 with | some k => some (23, k) | none => _ : Flt) = none := h
        rw [e2] at h'; cases h'
      | none =>
        have h' : (match fbad (fun k => fnOk ws wc U (fsOf U + k)) (faOf U - fsOf U) 0 with | some k => some (23, k) | none => (match fbad (wkOk U) U.1.2.1 0 with | some s => some (24, s) | none => match fbad (fun s => decide (mAll ws wc dp U s ≤ 24)) U.1.2.1 0 with | some s => some (25, s) | none => match lookA U (fsOf U) 0 with | some q => some (30 + q.1, 1024 * q.2.1 + q.2.2) | none => none : Flt) : Flt) = none := h
        rw [e2] at h'
        cases e3 : fbad (wkOk U) U.1.2.1 0 with
        | some p =>
          have h2 : (match fbad (wkOk U) U.1.2.1 0 with | some s => some (24, s) | none => _ : Flt) = none := h'
          rw [e3] at h2; cases h2
        | none =>
          have h2 : (match fbad (wkOk U) U.1.2.1 0 with | some s => some (24, s) | none => (match fbad (fun s => decide (mAll ws wc dp U s ≤ 24)) U.1.2.1 0 with | some s => some (25, s) | none => match lookA U (fsOf U) 0 with | some q => some (30 + q.1, 1024 * q.2.1 + q.2.2) | none => none : Flt) : Flt) = none := h'
          rw [e3] at h2
          cases e4 : fbad (fun s => decide (mAll ws wc dp U s ≤ 24)) U.1.2.1 0 with
          | some p =>
            have h3 : (match fbad (fun s => decide (mAll ws wc dp U s ≤ 24)) U.1.2.1 0 with | some s => some (25, s) | none => _ : Flt) = none := h2
            rw [e4] at h3; cases h3
          | none =>
            have h3 : (match fbad (fun s => decide (mAll ws wc dp U s ≤ 24)) U.1.2.1 0 with | some s => some (25, s) | none => (match lookA U (fsOf U) 0 with | some q => some (30 + q.1, 1024 * q.2.1 + q.2.2) | none => none : Flt) : Flt) = none := h2
            rw [e4] at h3
            refine ⟨fun s a b => (fbad_n _ _ _).mp (by rw [e1]; rfl) s a b, fun k hk => (fbad_n _ _ _).mp (by rw [e2]; rfl) k (by omega) (by omega), fun s hs => (fbad_n _ _ _).mp (by rw [e3]; rfl) s (by omega) (by omega), fun s hs => of_decide_eq_true ((fbad_n _ _ _).mp (by rw [e4]; rfl) s (by omega) (by omega)), ?_⟩
            cases e5 : lookA U (fsOf U) 0 with
            | none => rfl
            | some q =>
              have h4 : (match lookA U (fsOf U) 0 with | some q => some (30 + q.1, 1024 * q.2.1 + q.2.2) | none => none : Flt) = none := h3
              rw [e5] at h4; cases h4
section
variable {ws : Nat → Md} {wc : Nat} {dp : Nat → Nat → Nat} {led : Nat → Int64 → Nat → Nat} {b : Nat → Nat} {len : Nat}
theorem SWo.new (h : SWo ws wc dp) (hw : wc < 8) (hb : ∀ q, q < len → b q < 256) (hv : vdM ws wc dp b len = none) {q : MP × Nat} (hq : pAll b len = .ok q) : SWo (wsN ws (wc + 1) (mdOf b q.1)) (wc + 1) (dpN dp (wc + 1) (mAll ws wc dp (mdOf b q.1))) := by
  obtain ⟨q', v1, v2, v3, v4⟩ := vdM_n hv
  rw [hq] at v1
  cases v1
  obtain ⟨n0, nf⟩ := msF_21 v3
  obtain ⟨m1, m2, m3, m4, m5⟩ := msF_n v3
  obtain ⟨pk, h6⟩ := pAll_p hq
  have sm := sMd_of hb pk h6 v2
  have jr : jRd q.1 q.1.1.length 0 = none := by
    unfold rdMd at v4
    rw [hq] at v4
    have v4' : orE (jM b q.1) (jRd q.1 q.1.1.length 0) = none := v4
    exact (orE_0 v4').2
  have hR : ∀ k, k < q.1.1.length → isRd q.1 k = false := fun k hk => jRd_n _ _ jr k (by omega) (by omega)
  have D0 : ∀ x, mD0 ws wc dp (mdOf b q.1) x ≤ jac q.1 (mD0 ws wc dp (mdOf b q.1)) x := fun x => by
    unfold jac
    by_cases c : x < q.1.1.length
    · rw [if_pos c]
      have : mD0 ws wc dp (mdOf b q.1) x = 0 := by unfold mD0; rw [if_pos (show x < (mdOf b q.1).1.2.1 from c)]
      omega
    · rw [if_neg c]; exact Nat.le_refl _
  have fx := mTn_fix (b := b) hR D0
  have own : (mdOf b q.1).1.2.1 = q.1.1.length := rfl
  generalize hU : mdOf b q.1 = U at *
  have fx' : ∀ s, s < U.1.2.1 → mAll ws wc dp U s = mxD (mAll ws wc dp U) (fdsOf U s) 0 + 1 := fun s hs => by
    have := fx s
    unfold jac at this
    rw [if_pos (by rw [← own]; exact hs)] at this
    have e1 : mTn U q.1.1.length q.1.1.length (mD0 ws wc dp U) = mAll ws wc dp U := by unfold mAll; rw [own]
    rw [e1] at this
    rw [← this, ← hU]; rfl
  have nw := h.1.new sm.2.2.2.2.2.2.1 nf
  have wo : ∀ i, i ≤ wc → wsN ws (wc + 1) U i = ws i := fun i hi => wsN_o (by omega)
  have po : ∀ i, i ≤ wc → dpN dp (wc + 1) (mAll ws wc dp U) i = dp i := fun i hi => dpN_o (by omega)
  -- what was known stays as it was
  have dmo : ∀ id j, wfi ws (id / 256) (wc + 1) 0 = some j → dM (wsN ws (wc + 1) U) (wc + 1) (dpN dp (wc + 1) (mAll ws wc dp U)) id = dM ws wc dp id := fun id j hj => by
    have wj := wfi_s hj
    have e : wfi (wsN ws (wc + 1) U) (id / 256) (wc + 1 + 1) 0 = some j := by
      have := nw.at (i := j) (by omega)
      rw [wo j (by omega), wj.2.2] at this
      exact this
    unfold dM
    rw [hj, e]
    show (if _ < (wsN ws (wc + 1) U j).1.2.1 then dpN dp (wc + 1) (mAll ws wc dp U) j _ else 1) = _
    rw [wo j (by omega), po j (by omega)]
  refine ⟨nw, by rw [po 0 (by omega)]; exact h.2.1, by omega, fun i hi => ?_⟩
  by_cases c : i = wc + 1
  · subst c
    rw [wsN_u, dpN_u]
    have ids : ∀ s, s < U.1.2.2 → U.1.2.1 ≤ s → ∃ j, j ≤ wc ∧ wfi ws (U.2.2.2.1 s / 256) (wc + 1) 0 = some j ∧ U.2.2.2.1 s % 256 < (ws j).1.2.1 ∧ (ws j).2.1 (U.2.2.2.1 s % 256) = U.2.1 s := fun s hs ho => by
      have := m1 s ho (by omega)
      unfold strOk at this
      cases e : wfi ws (U.2.2.2.1 s / 256) (wc + 1) 0 with
      | none => rw [e] at this; cases this
      | some j =>
        rw [e] at this
        have this' : (decide (U.2.2.2.1 s % 256 < (ws j).1.2.1) && decide ((ws j).2.1 (U.2.2.2.1 s % 256) = U.2.1 s)) = true := this
        rw [Bool.and_eq_true] at this'
        have wj := wfi_s e
        exact ⟨j, by omega, rfl, of_decide_eq_true this'.1, of_decide_eq_true this'.2⟩
    have ownU : ∀ s, s < U.1.2.1 → U.2.2.2.1 s / 256 = U.1.1 ∧ U.2.2.2.1 s % 256 = s := fun s hs => by
      have e := sm.2.2.2.2.2.2.2.2.1 s hs
      have := sm.2.2.2.2.2.1.2.2.2
      omega
    have dmn : ∀ x, x < U.1.2.2 → dM (wsN ws (wc + 1) U) (wc + 1) (dpN dp (wc + 1) (mAll ws wc dp U)) (U.2.2.2.1 x) = mAll ws wc dp U x := fun x hx => by
      by_cases co : x < U.1.2.1
      · obtain ⟨o1, o2⟩ := ownU x co
        have e := nw.at (i := wc + 1) (Nat.le_refl _)
        rw [wsN_u] at e
        unfold dM
        rw [o1, e, o2]
        show (if x < (wsN ws (wc + 1) U (wc + 1)).1.2.1 then dpN dp (wc + 1) (mAll ws wc dp U) (wc + 1) x else 1) = _
        rw [wsN_u, dpN_u, if_pos co]
      · obtain ⟨j, j1, j2, j3, j4⟩ := ids x hx (by omega)
        rw [dmo _ j j2]
        have e1 : mAll ws wc dp U x = mD0 ws wc dp U x := by unfold mAll; exact mTn_o (by omega) _ _
        rw [e1]
        unfold dM mD0
        rw [j2, if_neg co]
        show (if _ then _ else _) = dp j (U.2.2.2.1 x % 256)
        rw [if_pos j3]
    refine ⟨sm, fun s hs => ⟨by rw [fx' s hs]; omega, m4 s hs⟩, fun s hs => ?_, m3, fun s hs t ht => ?_, fun _ => ⟨by omega, fun a a1 a2 => ?_, fun f hf => lookA_n _ _ m5 f (by omega) (by omega)⟩⟩
    · unfold HmS
      rw [wsN_u]
      by_cases co : s < U.1.2.1
      · obtain ⟨o1, o2⟩ := ownU s co
        exact ⟨wc + 1, Nat.le_refl _, by rw [wsN_u, o1], by rw [wsN_u, o2]; exact co, by rw [wsN_u, o2]⟩
      · obtain ⟨j, j1, j2, j3, j4⟩ := ids s hs (by omega)
        have wj := wfi_s j2
        exact ⟨j, by omega, by rw [wo j j1]; exact wj.2.2, by rw [wo j j1]; exact j3, by rw [wo j j1]; exact j4⟩
    · have pt := (sm.2.1 s hs).2 t ht
      rw [dT_cg (D' := mAll ws wc dp U) (fun x hx => by
        obtain ⟨k, ⟨cc, e, c1, c2⟩ | ⟨y, e, y1⟩⟩ := pt.shape
        · rw [e, endS_n cc _ (fun z hz => by have := List.eq_of_mem_replicate hz; omega)] at hx; cases hx
        · rw [e, endS_6] at hx; cases hx; exact dmn _ y1), fx' s hs]
      have := (mxD_ge (D := mAll ws wc dp U) (fdsOf U s) 0).2 t ht
      omega
    · have := m2 (a - fsOf U) (by omega)
      rw [show fsOf U + (a - fsOf U) = a by omega] at this
      unfold fnOk at this
      unfold HmF
      rw [wsN_u]
      cases e : wfi ws (whoOf U a / 256) (wc + 1) 0 with
      | none => rw [e] at this; cases this
      | some j =>
        rw [e] at this
        have this' : (decide (whoOf U a % 256 < fsOf (ws j)) && (decide ((fnOf (ws j) (whoOf U a % 256)).1 % 2 = 1) && (decide ((fnOf (ws j) (whoOf U a % 256)).1 / 4 % 2 = (fnOf U a).1 / 4 % 2) && sameLs U a (ws j) (whoOf U a % 256)))) = true := this
        rw [Bool.and_eq_true, Bool.and_eq_true, Bool.and_eq_true] at this'
        obtain ⟨t1, t2, t3, t4⟩ := this'
        have wj := wfi_s e
        refine ⟨j, by omega, ?_⟩
        rw [wo j (by omega)]
        exact ⟨wj.2.2, of_decide_eq_true t1, of_decide_eq_true t3, t4⟩
  · have hi' : i ≤ wc := by omega
    obtain ⟨s0, s1, s2, s3, s4, s5⟩ := h.2.2.2 i hi'
    rw [wo i hi', po i hi']
    refine ⟨s0, s1, fun s hs => ?_, s3, fun s hs t ht => ?_, fun h1 => ⟨(s5 h1).1, fun a a1 a2 => ?_, (s5 h1).2.2⟩⟩
    · obtain ⟨j, j1, j2, j3, j4⟩ := s2 s hs
      unfold HmS
      rw [wo i hi']
      exact ⟨j, j1, by rw [wo j (by omega)]; exact j2, by rw [wo j (by omega)]; exact j3, by rw [wo j (by omega)]; exact j4⟩
    · have pt := (s0.2.1 s hs).2 t ht
      rw [dT_cg (D' := fun x => dM ws wc dp ((ws i).2.2.2.1 x)) (fun x hx => by
        obtain ⟨k, ⟨cc, e, c1, c2⟩ | ⟨y, e, y1⟩⟩ := pt.shape
        · rw [e, endS_n cc _ (fun z hz => by have := List.eq_of_mem_replicate hz; omega)] at hx; cases hx
        · rw [e, endS_6] at hx; cases hx
          obtain ⟨j, j1, j2, _⟩ := h.hm hi' y1
          exact dmo _ j j2)]
      exact s4 s hs t ht
    · obtain ⟨j, j1, j2⟩ := (s5 h1).2.1 a a1 a2
      unfold HmF
      rw [wo i hi']
      refine ⟨j, j1, ?_⟩
      rw [wo j (by omega)]
      exact j2
/-- a type that modules know -/
def KnT (ws : Nat → Md) (wc t : Nat) : Prop := t = 11 ∨ ∃ i y, i ≤ wc ∧ PT (ws i).1.2.2 y ∧ t = sT (ws i).2.2.2.1 y
/-- both worlds agree on what the first one knows -/
def WEx (ws : Nat → Md) (wc : Nat) (dp : Nat → Nat → Nat) (ws' : Nat → Md) (wc' : Nat) (dp' : Nat → Nat → Nat) : Prop := ∀ id j, wfi ws (id / 256) (wc + 1) 0 = some j → id % 256 < (ws j).1.2.1 → fM ws' wc' id = fM ws wc id ∧ dM ws' wc' dp' id = dM ws wc dp id
theorem SWo.ex (h : SWo ws wc dp) {U : Md} {D : Nat → Nat} (nw : WNo (wsN ws (wc + 1) U) (wc + 1)) : WEx ws wc dp (wsN ws (wc + 1) U) (wc + 1) (dpN dp (wc + 1) D) := fun id j hj hs => by
  have wj := wfi_s hj
  have wo : wsN ws (wc + 1) U j = ws j := wsN_o (by omega)
  have e : wfi (wsN ws (wc + 1) U) (id / 256) (wc + 1 + 1) 0 = some j := by
    have := nw.at (i := j) (by omega)
    rw [wo, wj.2.2] at this
    exact this
  unfold fM dM
  rw [hj, e]
  show (if _ < (wsN ws (wc + 1) U j).1.2.1 then _ else _) = _ ∧ (if _ < (wsN ws (wc + 1) U j).1.2.1 then dpN dp (wc + 1) D j _ else 1) = _
  rw [wo, dpN_o (show j ≠ wc + 1 by omega)]
  exact ⟨rfl, rfl⟩
end
