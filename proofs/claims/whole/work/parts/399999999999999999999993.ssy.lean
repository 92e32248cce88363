/-! A MODULE IS TAKEN OR NOT: the class's misfits -/
section
variable {F n : Nat} {sh : Nat → Nat × Nat} {z z' : St} {kp kb len t : Nat} {b : Nat → Nat} {M : MP} {D : Nat → Nat} {ws : Nat → Md} {wc : Nat} {dp : Nat → Nat → Nat}
theorem CPr.of2 (h : CPr sh n z kp kb b len M) (hl : Lay sh n z') (h0 : z'.2.2 kp 0 = z.2.2 kp 0) (g : ∀ k, kp ≤ k → k ≤ kp + 4 → z'.1 k = z.1 k ∧ z'.2.1 k = z.2.1 k) (gk : z'.1 kb = z.1 kb) : CPr sh n z' kp kb b len M := by
  obtain ⟨⟨a1, a2, a3, a4⟩, h2, h3, h4, h5⟩ := h
  have g1 : ∀ k, kp ≤ k → k ≤ kp + 4 → z'.1 k = z.1 k := fun k q1 q2 => (g k q1 q2).1
  refine ⟨⟨hl, a2, ?_, a4⟩, by rw [h0]; exact h2, by rw [g1 kp (by omega) (by omega)]; exact h3, h4, fun p hp => ?_⟩
  · obtain ⟨t1, t2, t3, t4, t5, t6, t7, t8, t9⟩ := a3
    refine ⟨by rw [g1 kp (by omega) (by omega)]; exact t1, fun k hk => ?_, fun k hk => ?_, fun k hk => ?_, fun k hk => ?_, ?_, ?_, t8, t9⟩
    · have := t2 k hk; unfold SRo at this ⊢; rw [g1 (kp + 3) (by omega) (by omega)]; exact this
    · have := t3 k hk; unfold FoR at this ⊢; rw [g1 (kp + 3) (by omega) (by omega)]; exact this
    · have := t4 k hk; unfold CRo at this ⊢; rw [g1 (kp + 4) (by omega) (by omega)]; exact this
    · have := t5 k hk; unfold GRo at this ⊢; rw [g1 (kp + 4) (by omega) (by omega)]; exact this
    · unfold TyT at t6 ⊢; rw [g1 kp (by omega) (by omega), (g (kp + 1) (by omega) (by omega)).2]; exact t6
    · unfold SrT at t7 ⊢; rw [g1 kp (by omega) (by omega), g1 (kp + 2) (by omega) (by omega)]; exact t7
  · rw [rb_fr gk]
    exact h5 p hp
theorem CWo.of2 (h : CWo sh n z ws wc dp) (hl : Lay sh n z') (h3 : z'.1 3 5 = z.1 3 5) (g : ∀ i, i ≤ wc → z'.2.2 (15 + 5 * i) 0 = z.2.2 (15 + 5 * i) 0 ∧ ∀ k, 15 + 5 * i ≤ k → k ≤ 15 + 5 * i + 4 → z'.1 k = z.1 k ∧ z'.2.1 k = z.2.1 k) (gk : ∀ k, 513 ≤ k → z'.1 k = z.1 k) : CWo sh n z' ws wc dp := by
  obtain ⟨h1, h2, h4, h5⟩ := h
  refine ⟨hl, by rw [h3]; exact h2, h4, fun i hi => ?_⟩
  obtain ⟨⟨kb, b, len, M, c1, c2, c3, c4⟩, c5⟩ := h5 i hi
  obtain ⟨q1, q2⟩ := g i hi
  exact ⟨⟨kb, b, len, M, c1.of2 hl q1 q2 (gk kb c3), c2, c3, c4⟩, fun s hs => by rw [(q2 (15 + 5 * i + 3) (by omega) (by omega)).1]; exact c5 s hs⟩
/-- a transaction's own field -/
theorem CWo.st (h : CWo sh n z ws wc dp) {j : Nat} {v : Int32} (ht : 60 ≤ t ∧ t < 513) : CWo sh n (si z t j v) ws wc dp := by
  have wc8 := h.2.2.1
  exact h.of2 (h.1.of rfl) (by rw [si_ok (by omega)]) (fun i hi => ⟨rfl, fun k q1 q2 => ⟨si_ok (by omega), rfl⟩⟩) (fun k hk => si_ok (by omega))
theorem CPr.st (h : CPr sh n z kp kb b len M) (hk : 513 ≤ kb) {j : Nat} {v : Int32} (ht : 60 ≤ t ∧ t < 513) : CPr sh n (si z t j v) kp kb b len M := by
  have pn := isP_ne h.1.2.1
  exact h.of2 (h.1.1.of rfl) rfl (fun k q1 q2 => ⟨si_ok (by omega), rfl⟩) (si_ok (by omega))
/-- faults 21 to 25 -/
def msG (ws : Nat → Md) (wc : Nat) (dp : Nat → Nat → Nat) (U : Md) : Flt := if U.1.1 = 0 ∨ (wfi ws U.1.1 (wc + 1) 0).isSome = true then some (21, 4) else match fbad (strOk ws wc U) (U.1.2.2 - U.1.2.1) U.1.2.1 with
  | some p => some (22, p - U.1.2.1)
  | none => match fbad (fun k => fnOk ws wc U (fsOf U + k)) (faOf U - fsOf U) 0 with
    | some k => some (23, k)
    | none => match fbad (wkOk U) U.1.2.1 0 with
      | some s => some (24, s)
      | none => match fbad (fun s => decide (mAll ws wc dp U s ≤ 24)) U.1.2.1 0 with
        | some s => some (25, s)
        | none => none
theorem msF_g (ws : Nat → Md) (wc : Nat) (dp : Nat → Nat → Nat) (U : Md) : msF ws wc dp U = orE (msG ws wc dp U) (match lookA U (fsOf U) 0 with | some q => some (30 + q.1, 1024 * q.2.1 + q.2.2) | none => none) := by
  unfold msF msG
  by_cases c : U.1.1 = 0 ∨ (wfi ws U.1.1 (wc + 1) 0).isSome = true
  · rw [if_pos c, if_pos c]; rfl
  · rw [if_neg c, if_neg c]
    cases fbad (strOk ws wc U) (U.1.2.2 - U.1.2.1) U.1.2.1 with
    | some p => rfl
    | none =>
      cases fbad (fun k => fnOk ws wc U (fsOf U + k)) (faOf U - fsOf U) 0 with
      | some p => rfl
      | none =>
        cases fbad (wkOk U) U.1.2.1 0 with
        | some p => rfl
        | none =>
          show (match fbad (fun s => decide (mAll ws wc dp U s ≤ 24)) U.1.2.1 0 with | some s => some (25, s) | none => _) = orE (match fbad (fun s => decide (mAll ws wc dp U s ≤ 24)) U.1.2.1 0 with | some s => some (25, s) | none => none) _
          cases fbad (fun s => decide (mAll ws wc dp U s ≤ 24)) U.1.2.1 0 <;> rfl
def TkC (z' : St) (t : Nat) (v : Int32) (r : Flt) : Prop := match r with | none => v = 0 | some e => v = nI e.1 ∧ 0 < e.1 ∧ e.1 < 64 ∧ z'.1 t 14 = nI e.2
theorem nsR_lt {own p : Nat} (h : p < 256) : ¬ nsR own (some p) < 0 := fun y => by
  have := (nIlt (x := 0) 0 rfl (by omega) (by omega)).mp y
  omega
theorem nsR_n {own : Nat} : nsR own none < 0 := by show (-1 : Int32) < 0; decide
theorem fbad_lt {p : Nat → Bool} : ∀ {r i j : Nat}, fbad p r i = some j → i ≤ j ∧ j < i + r
  | 0, _, _, h => by cases h
  | r + 1, i, j, h => by
    unfold fbad at h
    by_cases c : p i = true
    · rw [if_pos c] at h
      have := fbad_lt h
      omega
    · rw [if_neg c] at h
      cases h
      omega
/-- what the class's misfits leave alone -/
def FrMs (kp t : Nat) (z z' : St) : Prop := z'.2 = z.2 ∧ (∀ k, k ≠ kp + 3 → k ≠ t → z'.1 k = z.1 k) ∧ ∀ j, j ≠ 14 → z'.1 t j = z.1 t j
theorem FrMs.trans {kp t : Nat} {z z' z'' : St} (f : FrMs kp t z z') (g : FrMs kp t z' z'') : FrMs kp t z z'' := ⟨g.1.trans f.1, fun k a b => (g.2.1 k a b).trans (f.2.1 k a b), fun j a => (g.2.2 j a).trans (f.2.2 j a)⟩
theorem FrMs.s {kp t : Nat} {z : St} {v : Int32} : FrMs kp t z (si z t 14 v) := ⟨rfl, fun k _ b => si_ok b, fun j a => si_oj a⟩
theorem FrMs.d {kp t : Nat} {z z' : St} (f : FrDp kp z z') (h : t ≠ kp + 3) : FrMs kp t z z' := ⟨f.1, fun k a _ => f.2.1 k a, fun j _ => by rw [f.2.1 t h]⟩
theorem CPr.misfit (hF : 1100 ≤ F) (hk : kp = 15 + 5 * (wc + 1)) (hkb : 513 ≤ kb) (ht : isT t) (hW : CWo sh n z ws wc dp) (hN : WNo ws wc) (h : CPr sh n z kp kb b len M) (h6 : 6 ≤ len) (hj : jM b M = none) : ∃ z' v, fn_X11_misfitOf F sh n z 0 kp t = some (z', v) ∧ TkC z' t v (msG ws wc dp (mdOf b M)) ∧ CPr sh n z' kp kb b len M ∧ CWo sh n z' ws wc dp ∧ FrMs kp t z z' ∧ (v = 0 → HD z' kp (M.1.length + M.2.1.length) (mAll ws wc dp (mdOf b M)) ∧ ∀ s, s < M.1.length → mAll ws wc dp (mdOf b M) s ≤ 24) := by
  have pk := h.1.2.2.2
  have l1 := pk.1.1
  have l2 := pk.2.1.1
  have l3 := pk.2.2.1.1
  have wc8 := hW.2.2.1
  have h6w := hN.2.1
  have pn := isP_ne h.1.2.1
  have ti : 60 ≤ t ∧ t < 513 := by obtain ⟨i, hi, e⟩ := ht; omega
  have ot := (b_tran h.1.1 ht).1
  have nl : shB b 4 < 65536 := shB_lt (h.hb 4 (by omega)) (h.hb 5 (by omega))
  have e11 : (mdOf b M).1.1 = shB b 4 := rfl
  have al : (mdOf b M).1.2.2 - (mdOf b M).1.2.1 = M.2.1.length := by show M.1.length + M.2.1.length - M.1.length = _; omega
  have fa : faOf (mdOf b M) - fsOf (mdOf b M) = M.2.2.1.length := by show M.2.2.2.2.length + M.2.2.1.length - M.2.2.2.2.length = _; omega
  unfold fn_X11_misfitOf msG
  rw [ot, grd_true, lt_t, e11]
  have h1 : CPr sh n (si z t 14 4) kp kb b len M := h.st hkb ti
  have W1 : CWo sh n (si z t 14 4) ws wc dp := hW.st ti
  have f1 : FrMs kp t z (si z t 14 4) := FrMs.s
  have p14 : (si z t 14 4).1 t 14 = nI 4 := by rw [si_ss]; rfl
  generalize si z t 14 4 = y1 at h1 W1 f1 p14
  have p5 := (b_prog h.1.1 h.1.2.1).1
  have o11 : okO sh n 0 11 = true := (b_ledg h.1.1).1
  rw [p5, grd_true, h1.1.2.2.1.1.1]
  by_cases c0 : shB b 4 = 0
  · rw [if_pos (by rw [c0]; rfl), if_pos (.inl c0)]
    exact ⟨y1, _, rfl, ⟨rfl, by omega, by omega, p14⟩, h1, W1, f1, fun q => absurd q (by decide)⟩
  have lk6 : ∀ y : St, Lay sh n y → y.2.2 0 6 = some 3 := fun y hy => hy.2.2 0 6 3 rfl
  rw [if_neg (nI_ne0 (by omega) (by omega)), o11, grd_true, lk6 y1 h1.1.1, lnk_s, (b_state h1.1.1).1, grd_true, W1.find (by omega) h6w nl, cal_s]
  cases ef : wfi ws (shB b 4) (wc + 1) 0 with
  | some i =>
    show ∃ z' v, nul (some (15 + 5 * i)) _ _ = _ ∧ _
    rw [nul_s, if_pos (.inr rfl)]
    exact ⟨y1, _, rfl, ⟨rfl, by omega, by omega, p14⟩, h1, W1, f1, fun q => absurd q (by decide)⟩
  | none =>
    show ∃ z' v, nul none _ _ = _ ∧ _
    rw [nul_n, if_neg (show ¬ (shB b 4 = 0 ∨ (none : Option Nat).isSome = true) from fun y => by
      rcases y with y | y
      · exact c0 y
      · cases y), lk6 y1 h1.1.1, lnk_s, CPr.strange (F := F) (by omega) W1 h6w h1 h6, cal_s, lt_t, al, fa]
    have h2 := fun v => h1.st (t := t) (j := 14) (v := v) hkb ti
    have W2 := fun v => W1.st (t := t) (j := 14) (v := v) ti
    rw [si_ss]
    show ∃ z' v, _ ∧ TkC z' t v (match fbad (strOk ws wc (mdOf b M)) M.2.1.length M.1.length with | some p => some (22, p - M.1.length) | none => _) ∧ _
    cases es : fbad (strOk ws wc (mdOf b M)) M.2.1.length M.1.length with
    | some p =>
      have pl := fbad_lt es
      rw [if_neg (nsR_lt (by omega))]
      exact ⟨_, _, rfl, ⟨rfl, by omega, by omega, si_ss⟩, h2 _, W2 _, f1.trans FrMs.s, fun q => absurd q (by decide)⟩
    | none =>
      have hS : ∀ s, M.1.length ≤ s → s < M.1.length + M.2.1.length → strOk ws wc (mdOf b M) s = true := (fbad_n _ _ _).mp (by rw [es]; rfl)
      have hy2 := h2 (nsR M.1.length none)
      have Wy2 := W2 (nsR M.1.length none)
      have fy2 : FrMs kp t z (si y1 t 14 (nsR M.1.length none)) := f1.trans FrMs.s
      rw [if_pos nsR_n]
      generalize si y1 t 14 (nsR M.1.length none) = y2 at hy2 Wy2 fy2
      rw [lk6 y2 hy2.1.1, lnk_s, CPr.strangeF (F := F) (by omega) Wy2 h6w hy2 h6 hj, cal_s, lt_t, si_ss]
      have h3 := fun v => hy2.st (t := t) (j := 14) (v := v) hkb ti
      have W3 := fun v => Wy2.st (t := t) (j := 14) (v := v) ti
      show ∃ z' v, _ ∧ TkC z' t v (match fbad (fun k => fnOk ws wc (mdOf b M) (M.2.2.2.2.length + k)) M.2.2.1.length 0 with | some k => some (23, k) | none => _) ∧ _
      cases eg : fbad (fun k => fnOk ws wc (mdOf b M) (M.2.2.2.2.length + k)) M.2.2.1.length 0 with
      | some p =>
        have pl := fbad_lt eg
        rw [if_neg (nsR_lt (by omega))]
        exact ⟨_, _, rfl, ⟨rfl, by omega, by omega, by rw [si_ss]; show nI (p - 0) = nI p; rw [Nat.sub_zero]⟩, h3 _, W3 _, fy2.trans FrMs.s, fun q => absurd q (by decide)⟩
      | none =>
        have hy3 := h3 (nsR 0 none)
        have Wy3 := W3 (nsR 0 none)
        have fy3 : FrMs kp t z (si y2 t 14 (nsR 0 none)) := fy2.trans FrMs.s
        rw [if_pos nsR_n]
        generalize si y2 t 14 (nsR 0 none) = y3 at hy3 Wy3 fy3
        rw [CPr.weakT (F := F) (by omega) hy3 hj, cal_s, lt_t, si_ss]
        have h4 := fun v => hy3.st (t := t) (j := 14) (v := v) hkb ti
        have W4 := fun v => Wy3.st (t := t) (j := 14) (v := v) ti
        show ∃ z' v, _ ∧ TkC z' t v (match fbad (wkOk (mdOf b M)) M.1.length 0 with | some s => some (24, s) | none => _) ∧ _
        cases ew : fbad (wkOk (mdOf b M)) M.1.length 0 with
        | some p =>
          have pl := fbad_lt ew
          rw [if_neg (nsR_lt (by omega))]
          exact ⟨_, _, rfl, ⟨rfl, by omega, by omega, by rw [si_ss]; show nI (p - 0) = nI p; rw [Nat.sub_zero]⟩, h4 _, W4 _, fy3.trans FrMs.s, fun q => absurd q (by decide)⟩
        | none =>
          have hy4 := h4 (nsR 0 none)
          have Wy4 := W4 (nsR 0 none)
          have fy4 : FrMs kp t z (si y3 t 14 (nsR 0 none)) := fy3.trans FrMs.s
          rw [if_pos nsR_n]
          generalize si y3 t 14 (nsR 0 none) = y4 at hy4 Wy4 fy4
          obtain ⟨y5, m1, m2, m3, m4, m5⟩ := CPr.measureT (F := F) hF hk hkb Wy4 h6w hy4 h6 hj hS
          have Wy5 := Wy4.frd hk m5
          have fy5 : FrMs kp t z y5 := fy4.trans (FrMs.d m5 (by omega))
          rw [lk6 y4 hy4.1.1, lnk_s, m1, cal_s, CPr.deep (F := F) (by omega) m2 m3 m4, cal_s, lt_t, si_ss]
          have h5 := fun v => m2.st (t := t) (j := 14) (v := v) hkb ti
          have W5 := fun v => Wy5.st (t := t) (j := 14) (v := v) ti
          show ∃ z' v, _ ∧ TkC z' t v (match fbad (fun s => decide (mAll ws wc dp (mdOf b M) s ≤ 24)) M.1.length 0 with | some s => some (25, s) | none => none) ∧ _
          cases ed : fbad (fun s => decide (mAll ws wc dp (mdOf b M) s ≤ 24)) M.1.length 0 with
          | some p =>
            have pl := fbad_lt ed
            rw [if_neg (nsR_lt (by omega))]
            exact ⟨_, _, rfl, ⟨rfl, by omega, by omega, by rw [si_ss]; show nI (p - 0) = nI p; rw [Nat.sub_zero]⟩, h5 _, W5 _, fy5.trans FrMs.s, fun q => absurd q (by decide)⟩
          | none =>
            rw [if_pos nsR_n]
            refine ⟨_, _, rfl, rfl, h5 _, W5 _, fy5.trans FrMs.s, fun _ => ⟨fun s hs => ?_, fun s hs => of_decide_eq_true ((fbad_n _ _ _).mp (by rw [ed]; rfl) s (Nat.zero_le _) (by omega))⟩⟩
            rw [si_ok (by omega)]
            exact m3 s hs
end
