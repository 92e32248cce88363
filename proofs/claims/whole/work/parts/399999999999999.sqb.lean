/-! THE REFERENCE'S UNIT: a function is passed over -/
theorem rTe_le {b : Nat → Nat} {len : Nat} {J : Option Nat} {t : Ty} {w c p : Nat} {q : Ty × Nat} (h : rTe b len J t w c p = .ok q) : p ≤ q.2 := by
  unfold rTe at h
  by_cases c1 : c < 1 ∨ 6 < c
  · rw [if_pos c1] at h; cases h
  rw [if_neg c1] at h
  by_cases c6 : c = 6
  · rw [if_pos c6] at h
    cases e : rBy b len p with
    | error x => rw [e] at h; cases h
    | ok x =>
      obtain ⟨e1, e2⟩ := rBy_ok e
      subst e2
      rw [e, ok_bq] at h
      cases J with
      | none =>
        have h' : (.ok (t ++ [6, b p], p + 1) : Ex (Ty × Nat)) = .ok q := h
        cases h'; show p ≤ p + 1; omega
      | some m =>
        have h' : (if decide (m ≤ b p) = true then .error (7, p) else .ok (t ++ [6, b p], p + 1) : Ex (Ty × Nat)) = .ok q := h
        by_cases d : decide (m ≤ b p) = true
        · rw [if_pos d] at h'; cases h'
        · rw [if_neg d] at h'; cases h'; show p ≤ p + 1; omega
  · rw [if_neg c6] at h; cases h; exact Nat.le_refl _
theorem rTv_le {b : Nat → Nat} {len : Nat} {J : Option Nat} : ∀ (k : Nat) {t : Ty} {w c p : Nat} {q : Ty × Nat}, rTv b len J k t w c p = .ok q → p ≤ q.2 := by
  intro k
  induction k with
  | zero => intro t w c p q h; exact rTe_le h
  | succ k ih =>
    intro t w c p q h
    unfold rTv at h
    by_cases c7 : c = 7
    · rw [if_pos c7] at h
      cases e : rBy b len p with
      | error x => rw [e] at h; cases h
      | ok x =>
        obtain ⟨e1, e2⟩ := rBy_ok e
        subst e2
        rw [e, ok_bq] at h
        have := ih h
        have : p + 1 ≤ q.2 := this
        omega
    · rw [if_neg c7] at h; exact rTe_le h
theorem rT_le {b : Nat → Nat} {len : Nat} {J : Option Nat} {rf : Bool} {p : Nat} {q : Ty × Nat} (h : rT b len J rf p = .ok q) : p < q.2 := by
  unfold rT at h
  cases e : rBy b len p with
  | error x => rw [e] at h; cases h
  | ok x =>
    obtain ⟨e1, e2⟩ := rBy_ok e
    subst e2
    rw [e, ok_bq] at h
    by_cases c : (rf && (b p == 8 || b p == 9)) = true
    · have h' : (rBy b len (p + 1) >>= fun r => rTv b len J 4 [b p] (p + 1) r.1 r.2) = .ok q := by
        have := h
        rw [if_pos c] at this; exact this
      cases e3 : rBy b len (p + 1) with
      | error x => rw [e3] at h'; cases h'
      | ok x =>
        obtain ⟨e4, e5⟩ := rBy_ok e3
        subst e5
        rw [e3, ok_bq] at h'
        have : p + 1 + 1 ≤ q.2 := rTv_le 4 h'
        omega
    · have h' : rTv b len J 4 [] p (b p) (p + 1) = .ok q := by
        have := h
        rw [if_neg c] at this; exact this
      have : p + 1 ≤ q.2 := rTv_le 4 h'
      omega
theorem pTs_le {b : Nat → Nat} {len : Nat} {J : Option Nat} {rf : Bool} : ∀ (k : Nat) {p : Nat} {q : List Ty × Nat}, pTs b len J rf k p = .ok q → p + q.1.length ≤ q.2 ∧ q.1.length = k := by
  intro k
  induction k with
  | zero => intro p q h; unfold pTs at h; cases h; exact ⟨Nat.le_refl _, rfl⟩
  | succ k ih =>
    intro p q h
    unfold pTs at h
    cases e : rT b len J rf p with
    | error x => rw [e] at h; cases h
    | ok x =>
      rw [e, ok_bq] at h
      cases e2 : pTs b len J rf k x.2 with
      | error y => rw [e2] at h; cases h
      | ok y =>
        rw [e2] at h; cases h
        obtain ⟨i1, i2⟩ := ih e2
        have := rT_le e
        show p + (y.1.length + 1) ≤ y.2 ∧ y.1.length + 1 = k + 1
        omega
theorem pLs_le {b : Nat → Nat} {len : Nat} {J : Option Nat} {most p : Nat} {q : List Ty × Nat} (h : pLs b len J most p = .ok q) : p + q.1.length < q.2 ∧ q.1.length ≤ most ∧ q.1.length = b p ∧ p < len := by
  unfold pLs at h
  cases e : rN b len 0 most p with
  | error x => rw [e] at h; cases h
  | ok x =>
    rw [e, ok_bq] at h
    obtain ⟨l1, l2, l3, l4, l5⟩ := rN_le e
    obtain ⟨i1, i2⟩ := pTs_le x.1 h
    omega
section
variable {F n : Nat} {sh : Nat → Nat × Nat} {z z' : St} {ku len p : Nat} {b : Nat → Nat}
theorem UB.short (h : UB sh n z ku b len) {q : Nat} (hq : q + 1 < len) : fn_X16_shortAt F sh n z ku (nI q) = some (z, nI (256 * b q + b (q + 1))) := by
  unfold fn_X16_shortAt
  rw [h.o, grd_true, h.byte (by omega), cal_s, nI_1, h.byte hq, cal_s, show (256 : Int32) = nI 256 from rfl, pk_mul, nI_add]
theorem UF.frw {ks js : List Nat} {w q : Nat} (h : UF sh n z ku b len w q) (f : FrOw ku ks js z z') (h1 : ku + 1 ∉ ks) (h2 : 1 ∉ js ∧ 3 ∉ js ∧ 4 ∉ js) : UF sh n z' ku b len w q := ⟨h.1.frw f h1 h2.1, by rw [f.2.2 3 h2.2.1]; exact h.2.1, h.2.2.1, h.2.2.2.1, by rw [f.2.2 4 h2.2.2]; exact h.2.2.2.2⟩
theorem US.frw {ks js : List Nat} (h : US sh n z ku b len p) (f : FrOw ku ks js z z') (h1 : ku + 1 ∉ ks) (h2 : 1 ∉ js ∧ 2 ∉ js ∧ 3 ∉ js) : US sh n z' ku b len p := ⟨h.1.frw f h1 h2.1, by rw [f.2.2 2 h2.2.1]; exact h.2.1, h.2.2.1, by rw [f.2.2 3 h2.2.2]; exact h.2.2.2⟩
theorem US.overFunction (hF : 1100 ≤ F) (h : US sh n z ku b len p) {gs : List GP} (hf : gs.length < 64) (T : TI z ku (allC gs)) (hc : (allC gs).length ≤ p) (TF : TFn z ku gs) : ∃ z', fn_X16_overFunction F sh n z ku (nI gs.length) = some (z', ()) ∧ UP sh n z' ku b len (pF b len (allC gs).length p) ∧ (∀ q, pF b len (allC gs).length p = .ok q → TI z' ku (allC (gs ++ [q.1])) ∧ (allC (gs ++ [q.1])).length ≤ q.2 ∧ TFn z' ku (gs ++ [q.1])) ∧ FrOw ku [ku + 5, ku + 6, ku + 7] [2, 3, 4, 10] z z' := by
  obtain ⟨u0, u1, _, _, _, u5, u6, u7, _, _, _, _, _, u13, u14, _⟩ := b_unit h.1.1 h.1.2.1
  have l8 := h.1.2.2.2.1
  have hpl := h.2.2.1
  have ok5 : okA sh n (ku + 5) 101 (nI gs.length) = true := by rw [u13]; exact okI_nI (by omega) (by omega)
  have ok6 : okA sh n (ku + 6) 101 (nI gs.length) = true := by rw [u14]; exact okI_nI (by omega) (by omega)
  have cf : (nI gs.length).toNatClampNeg = gs.length := nI_clamp (by omega)
  generalize eZ : si (si z (ku + 5) gs.length (nI p)) (ku + 6) gs.length (nI (allC gs).length) = z1
  have f1 : FrOw ku [ku + 5, ku + 6] [] z z1 := by rw [← eZ]; exact (FrOw.si (.inr ⟨by omega, by simp⟩)).trans (FrOw.si (.inr ⟨by omega, by simp⟩))
  have h1 : US sh n z1 ku b len p := h.frw f1 (by simp) (by simp)
  have v5 : ∀ j, z1.1 (ku + 5) j = if j = gs.length then nI p else z.1 (ku + 5) j := fun j => by
    rw [← eZ, si_ok (by omega)]
    by_cases c : j = gs.length
    · rw [if_pos c, c, si_ss]
    · rw [if_neg c, si_oj c]
  have v6 : ∀ j, z1.1 (ku + 6) j = if j = gs.length then nI (allC gs).length else z.1 (ku + 6) j := fun j => by
    rw [← eZ]
    by_cases c : j = gs.length
    · rw [if_pos c, c, si_ss]
    · rw [if_neg c, si_oj c, si_ok (by omega)]
  have T1 : TI z1 ku (allC gs) := ⟨by rw [f1.2.2 10 (by simp)]; exact T.1, fun j hj => by rw [f1.2.1 (ku + 7) (by omega) (by simp)]; exact T.2 j hj⟩
  -- a frame that holds the tables' rows
  have big : ∀ {za zb : St}, FrCu ku za zb → FrOw ku [ku + 5, ku + 6, ku + 7] [2, 3, 4, 10] za zb := fun g => g.w (by simp)
  have f1' : FrOw ku [ku + 5, ku + 6, ku + 7] [2, 3, 4, 10] z z1 := f1.mono (fun k hk => by simp at hk ⊢; omega) (fun j hj => by simp at hj)
  have hd : fn_X16_overFunction F sh n z ku (nI gs.length) = cal (fn_X16_count F sh n z1 ku 0 7) (fun z_10 r_11 => cal (fn_X16_overLists F sh n z_10 ku 8) (fun z_13 _ => cal (fn_X16_isGood F sh n z_13 ku) (fun z_15 r_16 => if (r_16 : Int32) = 0 then some (z_15, ()) else cal (fn_X16_over F sh n z_15 ku 2) (fun z_19 r_20 => cal (fn_X16_isGood F sh n z_19 ku) (fun z_22 r_23 => if (r_23 : Int32) = 0 then some (z_22, ()) else cal (fn_X16_shortAt F sh n z_22 ku r_20) (fun z_26 r_27 => if (r_27 : Int32) < 1 then fn_X16_overFunction_B86 F sh n ku r_20 r_27 (nI gs.length) z_26 else if (1024 : Int32) < r_27 then fn_X16_overFunction_B86 F sh n ku r_20 r_27 (nI gs.length) z_26 else if (((z_26.1 ku 10) + r_27) : Int32) ≤ 8192 then fn_X16_overFunction_B92 F sh n r_27 ku (nI gs.length) z_26 else fn_X16_overFunction_B86 F sh n ku r_20 r_27 (nI gs.length) z_26)))))) := by
    unfold fn_X16_overFunction
    rw [h.1.o, grd_true, u5, lnk_s, ok5, grd_true, lt_t, cf, h.2.1, si_3, u6, lnk_s, ok6, grd_true, lt_t, si_ok (show ku ≠ ku + 5 by omega), T.1, eZ]
  rw [hd]
  obtain ⟨z2, s1, s2, s3⟩ := h1.count (F := F) (lo := 0) (hi := 7) (by omega) (by omega)
  have s1' : fn_X16_count F sh n z1 ku 0 7 = some (z2, nI (vN (rN b len 0 7 p))) := s1
  unfold pF
  rw [s1', cal_s]
  have eL : ∀ {z w q}, UF sh n z ku b len w q → fn_X16_overLists F sh n z ku 8 = some (z, ()) := fun h => by
    unfold fn_X16_overLists fn_X16_overLists_B13 fn_X16_overLists_B26
    rw [h.1.o, grd_true, h.good, cal_s, if_pos rfl, h.good, cal_s, if_pos rfl, h.good, cal_s, if_pos rfl]
  cases a1 : rN b len 0 7 p with
  | error x =>
    rw [a1] at s2
    rw [eL s2, cal_s, UF.good (F := F) s2, cal_s, if_pos rfl]
    exact ⟨z2, rfl, s2, (fun q y => by cases y), f1'.trans (big s3)⟩
  | ok x =>
    rw [a1] at s2
    have s2' : US sh n z2 ku b len x.2 := s2
    obtain ⟨z3, t1, t2, t3⟩ := s2'.overLists (F := F) (by omega)
    rw [t1, cal_s, ok_bq]
    cases a2 : pLs b len none 8 x.2 with
    | error y =>
      rw [a2] at t2
      rw [UF.good (F := F) t2, cal_s, if_pos rfl]
      exact ⟨z3, rfl, t2, (fun q y => by cases y), f1'.trans (big (s3.trans t3))⟩
    | ok y =>
      rw [a2, ok_bq] at t2
      rw [ok_bq]
      cases a3 : pLs b len none 8 y.2 with
      | error v =>
        rw [a3] at t2
        rw [UF.good (F := F) t2, cal_s, if_pos rfl]
        exact ⟨z3, rfl, t2, (fun q y => by cases y), f1'.trans (big (s3.trans t3))⟩
      | ok v =>
        rw [a3, ok_bq] at t2
        rw [ok_bq]
        cases a4 : pLs b len none 32 v.2 with
        | error u =>
          rw [a4] at t2
          rw [UF.good (F := F) t2, cal_s, if_pos rfl]
          exact ⟨z3, rfl, t2, (fun q y => by cases y), f1'.trans (big (s3.trans t3))⟩
        | ok u =>
          rw [a4, ok_bq] at t2
          have t2' : US sh n z3 ku b len u.2 := t2
          obtain ⟨z4, w1, w2, w3⟩ := t2'.over (F := F) (k := 2) (by omega)
          have w1' : fn_X16_over F sh n z3 ku 2 = some (z4, nI u.2) := w1
          rw [t2'.good, cal_s, if_neg (show ¬ (1 : Int32) = 0 by decide), w1', cal_s, ok_bq]
          have fz : FrCu ku z1 z4 := (s3.trans t3).trans w3
          cases a5 : sk len 2 u.2 with
          | error r =>
            rw [a5] at w2
            rw [UF.good (F := F) w2, cal_s, if_pos rfl]
            exact ⟨z4, rfl, w2, (fun q y => by cases y), f1'.trans (big fz)⟩
          | ok r =>
            rw [a5] at w2
            obtain ⟨k1, k2⟩ := sk_ok a5
            have w2' : US sh n z4 ku b len (u.2 + 2) := by rw [← k2]; exact w2
            have b1 := (h.1.2.2.2.2 u.2 (by omega)).2
            have b2 := (h.1.2.2.2.2 (u.2 + 1) (by omega)).2
            have e10 : z4.1 ku 10 = nI (allC gs).length := by rw [fz.2.2 10 (by omega) (by omega) (by omega)]; exact T1.1
            have T4 : TI z4 ku (allC gs) := ⟨e10, fun j hj => by rw [fz.2.1 (ku + 7) (by omega)]; exact T1.2 j hj⟩
            rw [w2'.good, cal_s, if_neg (show ¬ (1 : Int32) = 0 by decide), w2'.1.short (by omega), cal_s, e10, nI_add, ok_bq, k2]
            generalize em : 256 * b u.2 + b (u.2 + 1) = m
            have hm : m < 65536 := by omega
            obtain ⟨z5, v1, v2, v3⟩ := w2'.fail (F := F) (w := 3) (q := u.2) (by omega) (by omega)
            have v1' : fn_X16_fail F sh n z4 ku 3 (nI u.2) = some (z5, ()) := v1
            have e86 : fn_X16_overFunction_B86 F sh n ku (nI u.2) (nI m) (nI gs.length) z4 = some (si z5 (ku + 6) (gs.length + 1) (z5.1 ku 10), ()) := by
              unfold fn_X16_overFunction_B86 fn_X16_overFunction_B92
              rw [v1', cal_s]
              have : ∀ G, 0 < G → fn_X16_overFunction_L95 F sh n (nI m) ku (nI gs.length) G z5 0 = fn_X16_overFunction_B118 F sh n ku (nI gs.length) z5 := fun G hG => by
                obtain ⟨G, rfl⟩ : ∃ k, G = k + 1 := ⟨G - 1, by omega⟩
                unfold fn_X16_overFunction_L95
                rw [v2.good, cal_s, if_pos rfl]
                by_cases c : nI m ≤ 0
                · rw [if_pos c]
                · rw [if_neg c]
              rw [this F (by omega), fn118 v2.1 hf]
            have f5 : FrOw ku [ku + 5, ku + 6, ku + 7] [2, 3, 4, 10] z (si z5 (ku + 6) (gs.length + 1) (z5.1 ku 10)) := (f1'.trans (big (fz.trans v3))).trans (FrOw.si (.inr ⟨by omega, by simp⟩))
            have u5f : UF sh n (si z5 (ku + 6) (gs.length + 1) (z5.1 ku 10)) ku b len 3 u.2 := v2.frw (ks := [ku + 6]) (js := []) (FrOw.si (.inr ⟨by omega, by simp⟩)) (by simp) (by simp)
            by_cases c1 : m < 1 ∨ 1024 < m ∨ 8192 < (allC gs).length + m
            · refine ⟨_, ?_, by rw [if_pos c1]; exact u5f, (fun q y => by rw [if_pos c1] at y; cases y), f5⟩
              rw [e86]
              by_cases d1 : m < 1
              · rw [if_pos ((nIlt (x := 1) 1 rfl (by omega) (by omega)).mpr d1)]
              rw [if_neg (fun q => d1 ((nIlt (x := 1) 1 rfl (by omega) (by omega)).mp q))]
              by_cases d2 : 1024 < m
              · rw [if_pos ((nIgt (x := 1024) 1024 rfl (by omega) (by omega)).mpr d2)]
              rw [if_neg (fun q => d2 ((nIgt (x := 1024) 1024 rfl (by omega) (by omega)).mp q)), if_neg (fun q => by have := (nIle (x := 8192) 8192 rfl (by omega) (by omega)).mp q; omega)]
            · obtain ⟨z6, y1, y2, y3, y4⟩ := US.overIs (F := F) (m := m) (by omega) (nI gs.length) m 0 F z4 (u.2 + 2) (allC gs) (by omega) (by omega) w2' T4 (by
                obtain ⟨_, _, _, _, n1⟩ := rN_le a1
                have n2 := (pLs_le a2).1
                have n3 := (pLs_le a3).1
                have n4 := (pLs_le a4).1
                omega)
              have y1' : fn_X16_overFunction_L95 F sh n (nI m) ku (nI gs.length) F z4 0 = _ := y1
              have ub6 : UB sh n z6 ku b len := by
                cases ey : pIs b len m (u.2 + 2) with
                | error v => rw [ey] at y2; exact y2.1
                | ok v => rw [ey] at y2; exact y2.1
              have y4' : FrOw ku [ku + 5, ku + 6, ku + 7] [2, 3, 4, 10] z4 z6 := y4.mono (fun k hk => by simp at hk ⊢; omega) (fun j hj => hj)
              have f6 : FrOw ku [ku + 6] [] z6 (si z6 (ku + 6) (gs.length + 1) (z6.1 ku 10)) := FrOw.si (.inr ⟨by omega, by simp⟩)
              refine ⟨si z6 (ku + 6) (gs.length + 1) (z6.1 ku 10), ?_, ?_, fun q y => ?_, ((f1'.trans (big fz)).trans y4').trans (FrOw.si (.inr ⟨by omega, by simp⟩))⟩
              · rw [if_neg (fun q => by have := (nIlt (x := 1) 1 rfl (by omega) (by omega)).mp q; omega), if_neg (fun q => by have := (nIgt (x := 1024) 1024 rfl (by omega) (by omega)).mp q; omega), if_pos ((nIle (x := 8192) 8192 rfl (by omega) (by omega)).mpr (by omega))]
                unfold fn_X16_overFunction_B92
                rw [y1', fn118 ub6 hf]
              · rw [if_neg c1]
                cases ey : pIs b len m (u.2 + 2) with
                | error v => rw [ey] at y2; exact UF.frw (z := z6) y2 f6 (by simp) (by simp)
                | ok v => rw [ey] at y2; exact US.frw (z := z6) y2 f6 (by simp) (by simp)
              · rw [if_neg c1] at y
                cases ey : pIs b len m (u.2 + 2) with
                | error v => rw [ey] at y; cases y
                | ok v =>
                  rw [ey] at y
                  cases y
                  obtain ⟨t5, t6⟩ := y3 v ey
                  have ea : ∀ g : GP, g.2.2.2.2.2 = v.1 → allC (gs ++ [g]) = allC gs ++ v.1 := fun g e => by rw [allC_a, e]
                  refine ⟨?_, by rw [ea _ rfl]; exact t6, fun f hf' => ?_⟩
                  · rw [ea _ rfl]
                    exact ⟨by rw [f6.2.2 10 (by simp)]; exact t5.1, fun j hj => by rw [f6.2.1 (ku + 7) (by omega) (by simp)]; exact t5.2 j hj⟩
                  · rw [List.length_append] at hf'
                    have hf2 : f < gs.length + 1 := hf'
                    have w5 : ∀ j, (si z6 (ku + 6) (gs.length + 1) (z6.1 ku 10)).1 (ku + 5) j = if j = gs.length then nI p else z.1 (ku + 5) j := fun j => by
                      rw [si_ok (by omega), y4.2.1 (ku + 5) (by omega) (by simp), fz.2.1 (ku + 5) (by omega), v5]
                    have w6 : ∀ j, j ≠ gs.length + 1 → (si z6 (ku + 6) (gs.length + 1) (z6.1 ku 10)).1 (ku + 6) j = if j = gs.length then nI (allC gs).length else z.1 (ku + 6) j := fun j hj => by
                      rw [si_oj hj, y4.2.1 (ku + 6) (by omega) (by simp), fz.2.1 (ku + 6) (by omega), v6]
                    rw [w5]
                    by_cases c : f = gs.length
                    · subst c
                      rw [if_pos rfl, w6 _ (by omega), if_pos rfl, si_ss, t5.1, getD_e, offC_l _ _ (Nat.le_refl _), offC_e]
                      have e1 : ∀ g : GP, offC (gs ++ [g]) (gs.length + 1) = (allC (gs ++ [g])).length := fun g => by
                        have := offC_e (gs ++ [g])
                        rw [List.length_append] at this
                        exact this
                      refine ⟨rfl, rfl, ?_⟩
                      rw [e1, ea _ rfl]
                    · obtain ⟨i1, i2, i3⟩ := TF f (by omega)
                      rw [if_neg c, getD_l (by omega), w6 f (by omega), if_neg c, w6 (f + 1) (by omega), offC_l _ _ (by omega), offC_l _ _ (by omega)]
                      refine ⟨i1, i2, ?_⟩
                      by_cases d : f + 1 = gs.length
                      · rw [if_pos d, d, offC_e]
                      · rw [if_neg d]; exact i3
end
