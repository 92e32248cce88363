/-! A MODULE IS TAKEN OR NOT: the reference -/
def msF (ws : Nat → Md) (wc : Nat) (dp : Nat → Nat → Nat) (U : Md) : Flt := if U.1.1 = 0 ∨ (wfi ws U.1.1 (wc + 1) 0).isSome = true then some (21, 4) else match fbad (strOk ws wc U) (U.1.2.2 - U.1.2.1) U.1.2.1 with
  | some p => some (22, p - U.1.2.1)
  | none => match fbad (fun k => fnOk ws wc U (fsOf U + k)) (faOf U - fsOf U) 0 with
    | some k => some (23, k)
    | none => match fbad (wkOk U) U.1.2.1 0 with
      | some s => some (24, s)
      | none => match fbad (fun s => decide (mAll ws wc dp U s ≤ 24)) U.1.2.1 0 with
        | some s => some (25, s)
        | none => match lookA U (fsOf U) 0 with
          | some q => some (30 + q.1, 1024 * q.2.1 + q.2.2)
          | none => none
/-- what becomes of a module -/
def vdM (ws : Nat → Md) (wc : Nat) (dp : Nat → Nat → Nat) (b : Nat → Nat) (len : Nat) : Flt := match rdMd b len with
  | some e => some e
  | none => match pAll b len with
    | .ok q => msF ws wc dp (mdOf b q.1)
    | .error e => some e
theorem rdMd_n {b : Nat → Nat} {len : Nat} (h : rdMd b len = none) : ∃ q, pAll b len = .ok q ∧ jM b q.1 = none := by
  unfold rdMd at h
  cases e : pAll b len with
  | error x => rw [e] at h; cases h
  | ok q =>
    rw [e] at h
    have h' : orE (jM b q.1) (jRd q.1 q.1.1.length 0) = none := h
    exact ⟨q, rfl, (orE_0 h').1⟩
def FrTk (u : Nat) (z z' : St) : Prop := (∀ k j, k ≠ 355 ∨ j ≠ 0 → z'.2.2 k j = z.2.2 k j) ∧ (∀ k, k < 355 ∨ 367 < k → z'.2.1 k = z.2.1 k) ∧ (∀ k, (k < 355 ∨ 367 < k) → (k < 423 + 9 * u ∨ 423 + 9 * u + 8 < k) → k ≠ 342 → k ≠ 337 → z'.1 k = z.1 k) ∧ (∀ j, j ≠ 23 → z'.1 337 j = z.1 337 j) ∧ ∀ j, ¬ (64 * u ≤ j ∧ j < 64 * u + 64) → z'.1 342 j = z.1 342 j
theorem FrTk.trans {u : Nat} {z z' z'' : St} (f : FrTk u z z') (g : FrTk u z' z'') : FrTk u z z'' := ⟨fun k j h => (g.1 k j h).trans (f.1 k j h), fun k h => (g.2.1 k h).trans (f.2.1 k h), fun k a b c d => (g.2.2.1 k a b c d).trans (f.2.2.1 k a b c d), fun j h => (g.2.2.2.1 j h).trans (f.2.2.2.1 j h), fun j h => (g.2.2.2.2 j h).trans (f.2.2.2.2 j h)⟩
theorem FrTk.un {u : Nat} {z z' : St} (f : FrUn (423 + 9 * u) z z') : FrTk u z z' := ⟨fun _ _ _ => by rw [f.1], fun _ _ => by rw [f.1], fun k _ b _ _ => f.2 k b, fun j _ => by rw [f.2 337 (by omega)], fun j _ => by rw [f.2 342 (by omega)]⟩
theorem FrTk.lm {u : Nat} {z z' : St} (f : FrLm z z') : FrTk u z z' := ⟨f.1, f.2.1, fun k a _ _ d => f.2.2.1 k a d, f.2.2.2, fun j _ => by rw [f.2.2.1 342 (by omega) (by omega)]⟩
theorem FrTk.me {u : Nat} {z z' : St} (f : FrMe u z z') : FrTk u z z' := ⟨fun _ _ _ => by rw [f.1], fun _ _ => by rw [f.1], fun k _ _ c _ => f.2.1 k c, fun j _ => by rw [f.2.1 337 (by omega)], f.2.2⟩
theorem FrTk.s23 {u : Nat} {z : St} {v : Int32} : FrTk u z (si z 337 23 v) := ⟨fun _ _ _ => rfl, fun _ _ => rfl, fun k _ _ _ d => si_ok d, fun j h => si_oj h, fun j _ => by rw [si_ok (by omega)]⟩
theorem FrTk.lay {u : Nat} {sh : Nat → Nat × Nat} {n : Nat} {z z' : St} (f : FrTk u z z') (h : Lay sh n z) : Lay sh n z' := ⟨h.1, h.2.1, fun k j t q => by
  rw [f.1 k j]
  · exact h.2.2 k j t q
  · by_cases c : k = 355 ∧ j = 0
    · rw [c.1, c.2] at q
      have : lkF 355 0 = none := rfl
      rw [this] at q; cases q
    · omega⟩
/-- units stay as they are -/
def K4 (z z' : St) : Prop := ∀ k, 423 ≤ k → z'.1 k = z.1 k
theorem K4.trans {z z' z'' : St} (f : K4 z z') (g : K4 z' z'') : K4 z z'' := fun k h => (g k h).trans (f k h)
theorem K4.s23 {z : St} {v : Int32} : K4 z (si z 337 23 v) := fun k h => si_ok (by omega)
theorem K4.lm {z z' : St} (f : FrLm z z') : K4 z z' := fun k h => f.2.2.1 k (by omega) (by omega)
theorem K4.me {u : Nat} {z z' : St} (f : FrMe u z z') : K4 z z' := fun k h => f.2.1 k (by omega)
def TkR (z' : St) (v : Int32) (r : Flt) : Prop := match r with | none => v = 0 | some e => v = nI e.1 ∧ 0 < e.1 ∧ e.1 < 64 ∧ z'.1 337 23 = nI e.2
theorem UM.fmk {sh : Nat → Nat × Nat} {n ku len : Nat} {z z' : St} {b : Nat → Nat} {M : MP} (h : UM sh n z ku b len M) (hl : Lay sh n z') (g : ∀ k, ku ≤ k → k ≤ ku + 8 → z'.1 k = z.1 k) : UM sh n z' ku b len M := by
  obtain ⟨⟨u1, u2, u3, u4, u5⟩, ⟨t1, t2, t3, t4, t5, t6, t7, t8, t9, t10, t11⟩, h3⟩ := h
  refine ⟨⟨hl, u2, by rw [g ku (by omega) (by omega)]; exact u3, u4, fun p hp => by rw [g (ku + 1) (by omega) (by omega)]; exact u5 p hp⟩, ⟨by rw [g ku (by omega) (by omega)]; exact t1, fun k hk2 => by rw [g (ku + 2) (by omega) (by omega)]; exact t2 k hk2, by rw [g ku (by omega) (by omega)]; exact t3, fun k hk2 => by rw [g (ku + 2) (by omega) (by omega)]; exact t4 k hk2, by rw [g ku (by omega) (by omega)]; exact t5, fun k hk2 => by rw [g (ku + 3) (by omega) (by omega)]; exact t6 k hk2, by rw [g ku (by omega) (by omega)]; exact t7, fun k hk2 => by rw [g (ku + 4) (by omega) (by omega)]; exact t8 k hk2, by rw [g ku (by omega) (by omega)]; exact t9, ⟨by rw [g ku (by omega) (by omega)]; exact t10.1, fun j hj => by rw [g (ku + 7) (by omega) (by omega)]; exact t10.2 j hj⟩, fun f hf => by rw [g (ku + 5) (by omega) (by omega), g (ku + 6) (by omega) (by omega)]; exact t11 f hf⟩, h3⟩
section
variable {F n : Nat} {sh : Nat → Nat × Nat} {z z' : St} {ku len x0 st : Nat} {b : Nat → Nat} {M : MP} {D : Nat → Nat} {ws : Nat → Md} {wc u : Nat} {dp : Nat → Nat → Nat}
theorem RWo.tk (h : RWo sh n z ws wc dp) (hu : u = wc + 1) (f : FrTk u z z') : RWo sh n z' ws wc dp := by
  have l32 := h.l32
  obtain ⟨h1, h2, h3, h4⟩ := h
  have L' := f.lay h1
  refine ⟨L', by rw [f.2.2.2.1 5 (by omega)]; exact h2, h3, fun i q1 q2 => ?_⟩
  obtain ⟨⟨b, len, M, c1, c2⟩, c3⟩ := h4 i q1 q2
  have := l32 i q1 q2
  exact ⟨⟨b, len, M, c1.fmk L' (fun k k1 k2 => f.2.2.1 k (by omega) (by omega) (by omega) (by omega)), c2⟩, fun s hs => by rw [f.2.2.2.2 _ (by omega)]; exact c3 s hs⟩
/-- misfits and looking, behind reading -/
theorem RWo.misfit (hF : 3000 ≤ F) (hu : u = wc + 1) (hk : ku = 423 + 9 * u) (hW : RWo sh n z ws wc dp) (hN : WNo ws wc) (h0 : dp 0 0 = 2) (h : UM sh n z ku b len M) (h6 : 6 ≤ len) (hj : jM b M = none) (hA : (allC M.2.2.2.2).length ≤ len) : ∃ z' v, cal (fn_X16_number F sh n z ku) (fun z_14 r_15 => if (r_15 : Int32) = 0 then cal (fn_X18_tell F sh n z_14 337 21 4) (fun z_18 r_19 => some (z_18, r_19)) else cal (fn_X16_number F sh n z_14 ku) (fun z_21 r_22 => cal (fn_X18_findModule F sh n z_21 337 r_22) (fun z_24 r_25 => if (r_25 : Int32) ≤ 0 then lt_ (z_24.1 ku 5) (fun v_28 => fn_X18_takeModule_L80 F sh n ku 337 (nI u) F z_24 v_28) else cal (fn_X18_tell F sh n z_24 337 21 4) (fun z_109 r_110 => some (z_109, r_110))))) = some (z', v) ∧ TkR z' v (msF ws wc dp (mdOf b M)) ∧ (FrTk u z z' ∧ K4 z z') ∧ (v = 0 → HR z' u (M.1.length + M.2.1.length) (mAll ws wc dp (mdOf b M)) ∧ ∀ s, s < M.1.length → mAll ws wc dp (mdOf b M) s ≤ 24) := by
  have pk := h.2.2
  have hb : ∀ q, q < len → b q < 256 := fun q hq => (h.1.2.2.2.2 q hq).2
  have l1 := pk.1.1
  have l2 := pk.2.1.1
  have l3 := pk.2.2.1.1
  have l4 := pk.2.2.2.2.1
  have wc8 := hW.2.2.1
  have nm := h.1.number (F := F) h6
  have nl : shB b 4 < 65536 := shB_lt (hb 4 (by omega)) (hb 5 (by omega))
  have o18 := (b_model h.1.1).1
  have e11 : (mdOf b M).1.1 = shB b 4 := rfl
  have al : (mdOf b M).1.2.2 - (mdOf b M).1.2.1 = M.2.1.length := by show M.1.length + M.2.1.length - M.1.length = _; omega
  have fa : faOf (mdOf b M) - fsOf (mdOf b M) = M.2.2.1.length := by show M.2.2.2.2.length + M.2.2.1.length - M.2.2.2.2.length = _; omega
  have tl4 : ∃ z' v, cal (fn_X18_tell F sh n z 337 21 4) (fun z_18 r_19 => some (z_18, r_19)) = some (z', v) ∧ TkR z' v (some (21, 4)) ∧ (FrTk u z z' ∧ K4 z z') := by
    unfold fn_X18_tell
    rw [o18, grd_true, lt_t, cal_s]
    exact ⟨_, _, rfl, ⟨rfl, by omega, by omega, si_ss⟩, FrTk.s23, K4.s23⟩
  rw [nm, cal_s]
  unfold msF
  rw [e11]
  by_cases c0 : shB b 4 = 0
  · rw [if_pos (by rw [c0]; rfl), if_pos (.inl c0)]
    obtain ⟨z', v, q1, q2, q3⟩ := tl4
    exact ⟨z', v, q1, q2, q3, fun q => absurd (q2.1.symm.trans q) (by decide)⟩
  rw [if_neg (nI_ne0 (by omega) (by omega)), nm, cal_s, hW.find (by omega) hN (by omega) nl, cal_s]
  rcases wix_s hN (num := shB b 4) (by omega) with ⟨q, q0⟩ | ⟨q, q1, q2⟩
  case inr =>
    rw [if_neg (fun y => by have := (nIle (x := 0) 0 rfl (by omega) (by omega)).mp y; omega), if_pos (.inr (by rw [q]; rfl))]
    obtain ⟨z', v, q1, q2, q3⟩ := tl4
    exact ⟨z', v, q1, q2, q3, fun q => absurd (q2.1.symm.trans q) (by decide)⟩
  rw [q0, if_pos (show nI 0 ≤ 0 by decide), lt_t, h.2.1.1, if_neg (show ¬ (shB b 4 = 0 ∨ (wfi ws (shB b 4) (wc + 1) 0).isSome = true) from fun y => by
    rcases y with y | y
    · exact c0 y
    · rw [q] at y; cases y), hW.l80 (by omega) hN h h6 (nI u) M.2.1.length M.1.length F (Nat.le_refl _) (by omega) (by omega), al, fa]
  show ∃ z' v, tlR z 22 M.1.length _ (fbad (strOk ws wc (mdOf b M)) M.2.1.length M.1.length) = some (z', v) ∧ TkR z' v (match fbad (strOk ws wc (mdOf b M)) M.2.1.length M.1.length with | some p => some (22, p - M.1.length) | none => _) ∧ _
  cases es : fbad (strOk ws wc (mdOf b M)) M.2.1.length M.1.length with
  | some p => exact ⟨_, _, rfl, ⟨rfl, by omega, by omega, si_ss⟩, ⟨FrTk.s23, K4.s23⟩, fun q => absurd q (by decide)⟩
  | none =>
    have hS : ∀ s, M.1.length ≤ s → s < M.1.length + M.2.1.length → strOk ws wc (mdOf b M) s = true := (fbad_n _ _ _).mp (by rw [es]; rfl)
    have q171 := hW.l171 (F := F) (by omega) hN h h6 hj (nI u) M.2.2.1.length 0 F (by omega) (by omega)
    rw [Nat.add_zero] at q171
    show ∃ z' v, fn_X18_takeModule_L171 F sh n ku 337 (nI u) F z (nI M.2.2.2.2.length) = some (z', v) ∧ TkR z' v (match fbad (fun k => fnOk ws wc (mdOf b M) (M.2.2.2.2.length + k)) M.2.2.1.length 0 with | some k => some (23, k) | none => _) ∧ _
    rw [q171]
    cases ef : fbad (fun k => fnOk ws wc (mdOf b M) (M.2.2.2.2.length + k)) M.2.2.1.length 0 with
    | some p => exact ⟨_, _, rfl, ⟨rfl, by omega, by omega, by rw [si_ss, Nat.sub_zero]⟩, ⟨FrTk.s23, K4.s23⟩, fun q => absurd q (by decide)⟩
    | none =>
      obtain ⟨z1, q1, q2⟩ := UM.l216 (F := F) (by omega) hj (nI u) M.1.length 0 F z h (by omega) (by omega)
      have q1' : fn_X18_takeModule_L216 F sh n ku 337 (nI u) F z 0 = _ := q1
      show ∃ z' v, fn_X18_takeModule_L216 F sh n ku 337 (nI u) F z 0 = some (z', v) ∧ TkR z' v (match fbad (wkOk (mdOf b M)) M.1.length 0 with | some s => some (24, s) | none => _) ∧ _
      rw [q1']
      cases ew : fbad (wkOk (mdOf b M)) M.1.length 0 with
      | some p => exact ⟨_, _, rfl, ⟨rfl, by omega, by omega, by rw [si_ss, Nat.sub_zero]⟩, ⟨(FrTk.lm q2).trans FrTk.s23, (K4.lm q2).trans K4.s23⟩, fun q => absurd q (by decide)⟩
      | none =>
        have h1 := h.fm q2
        have hW1 := hW.tk hu (FrTk.lm q2)
        obtain ⟨z2, r1, r2, r3, r4, r5⟩ := hW1.measureT (F := F) (by omega) hu hk hN h0 h1 h6 hj hS
        have r264 := r2.l264 (F := F) (by omega) (u := u) (by omega) r3 r4 M.1.length 0 F (by omega) (by omega)
        have r264' : fn_X18_takeModule_L264 F sh n ku 337 (nI u) F z2 0 = _ := r264
        have f2 : FrTk u z z2 := (FrTk.lm q2).trans (FrTk.me r5)
        have k2 : K4 z z2 := (K4.lm q2).trans (K4.me r5)
        show ∃ z' v, cal (fn_X18_measure F sh n z1 337 (nI u)) (fun z_48 _ => fn_X18_takeModule_L264 F sh n ku 337 (nI u) F z_48 0) = some (z', v) ∧ TkR z' v (match fbad (fun s => decide (mAll ws wc dp (mdOf b M) s ≤ 24)) M.1.length 0 with | some s => some (25, s) | none => _) ∧ _
        rw [r1, cal_s, r264']
        cases ed : fbad (fun s => decide (mAll ws wc dp (mdOf b M) s ≤ 24)) M.1.length 0 with
        | some p => exact ⟨_, _, rfl, ⟨rfl, by omega, by omega, by rw [si_ss, Nat.sub_zero]⟩, ⟨f2.trans FrTk.s23, k2.trans K4.s23⟩, fun q => absurd q (by decide)⟩
        | none =>
          have d24 : ∀ s, s < M.1.length → mAll ws wc dp (mdOf b M) s ≤ 24 := fun s hs => of_decide_eq_true ((fbad_n _ _ _).mp (by rw [ed]; rfl) s (Nat.zero_le _) (by omega))
          obtain ⟨z3, v, t1, t2, t3⟩ := lookR (F := F) hF hj hA M.2.2.2.2.length 0 F z2 (by omega) (by omega) r2
          have t1' : fn_X18_takeModule_L310 F sh n ku 337 F z2 0 = some (z3, v) := t1
          have hr3 : HR z3 u (M.1.length + M.2.1.length) (mAll ws wc dp (mdOf b M)) := fun s hs => by rw [t3.2.2.1 342 (by omega) (by omega)]; exact r3 s hs
          show ∃ z' v, fn_X18_takeModule_L310 F sh n ku 337 F z2 0 = some (z', v) ∧ TkR z' v (match lookA (mdOf b M) M.2.2.2.2.length 0 with | some q => some (30 + q.1, 1024 * q.2.1 + q.2.2) | none => none) ∧ _
          rw [t1']
          refine ⟨z3, v, rfl, ?_, ⟨f2.trans (FrTk.lm t3), k2.trans (K4.lm t3)⟩, fun _ => ⟨hr3, d24⟩⟩
          cases el : lookA (mdOf b M) M.2.2.2.2.length 0 with
          | none => rw [el] at t2; exact t2
          | some q =>
            rw [el] at t2
            obtain ⟨w1, w2, w3, w4⟩ := t2
            exact ⟨w1, by show 0 < 30 + q.1; omega, by show 30 + q.1 < 64; omega, w4⟩
end
