/-! THE REFERENCE'S UNIT: types and lists are passed over -/
section
variable {F n : Nat} {sh : Nat → Nat × Nat} {z z' : St} {ku len p : Nat} {b : Nat → Nat}
theorem US.ty80 (h : US sh n z ku b len p) {w : Nat} (hw : w < len) (t : Ty) : ∃ z', fn_X16_overType_B80 F sh n ku z (nI w) = some (z', ()) ∧ UP sh n z' ku b len (rTe b len none t w (b w) p) ∧ FrCu ku z z' := by
  have by1 := h.1.byte (F := F) hw
  have b8 := (h.1.2.2.2.2 w hw).2
  obtain ⟨z2, s1, s2, s3⟩ := h.fail (F := F) (w := 4) (q := w) (by omega) (by omega)
  have s1' : fn_X16_fail F sh n z ku 4 (nI w) = some (z2, ()) := s1
  unfold fn_X16_overType_B80 rTe
  rw [h.good, cal_s, if_neg (by decide), by1, cal_s]
  by_cases c1 : b w < 1
  · rw [if_pos ((nIlt (x := 1) 1 rfl (by omega) (by omega)).mpr c1), s1', cal_s, if_pos (Or.inl c1)]
    exact ⟨z2, rfl, s2, s3⟩
  rw [if_neg (fun x => c1 ((nIlt (x := 1) 1 rfl (by omega) (by omega)).mp x))]
  by_cases c6 : b w ≤ 6
  · rw [if_pos ((nIle (x := 6) 6 rfl (by omega) (by omega)).mpr c6), if_neg (show ¬ (b w < 1 ∨ 6 < b w) by omega)]
    by_cases d : b w = 6
    · obtain ⟨z3, q1, q2, q3⟩ := h.over1 (F := F)
      rw [if_pos ((nIe (x := 6) 6 rfl (by omega) (by omega)).mpr d), if_pos d, q1, cal_s]
      refine ⟨z3, rfl, ?_, q3⟩
      cases e : rBy b len p with
      | error x => rw [e] at q2; exact q2
      | ok x => rw [e] at q2; exact q2
    · rw [if_neg (fun x => d ((nIe (x := 6) 6 rfl (by omega) (by omega)).mp x)), if_neg d]
      exact ⟨z, rfl, h, FrCu.rfl'⟩
  · rw [if_neg (fun x => c6 ((nIle (x := 6) 6 rfl (by omega) (by omega)).mp x)), s1', cal_s, if_pos (show b w < 1 ∨ 6 < b w by omega)]
    exact ⟨z2, rfl, s2, s3⟩
theorem UF.ty80 {w q : Nat} (h : UF sh n z ku b len w q) (x : Int32) : fn_X16_overType_B80 F sh n ku z x = some (z, ()) := by
  unfold fn_X16_overType_B80
  rw [h.good, cal_s, if_pos rfl]
theorem UF.ty46 {w q : Nat} (h : UF sh n z ku b len w q) {g : Nat} (hg : 0 < g) (x y : Int32) : fn_X16_overType_L46 F sh n ku g z x y = some (z, ()) := by
  obtain ⟨g, rfl⟩ : ∃ k, g = k + 1 := ⟨g - 1, by omega⟩
  unfold fn_X16_overType_L46
  rw [h.good, cal_s, if_pos rfl, h.ty80]
theorem US.ty46 : ∀ k r g z p w t, k + r = 4 → k + 1 < g → US sh n z ku b len p → w < len → ∃ z', fn_X16_overType_L46 F sh n ku g z (nI w) (nI r) = some (z', ()) ∧ UP sh n z' ku b len (rTv b len none k t w (b w) p) ∧ FrCu ku z z' := by
  intro k
  induction k with
  | zero =>
    intro r g z p w t ek hg h hw
    obtain ⟨g, rfl⟩ : ∃ k, g = k + 1 := ⟨g - 1, by omega⟩
    have by1 := h.1.byte (F := F) hw
    have b8 := (h.1.2.2.2.2 w hw).2
    have er : r = 4 := by omega
    subst er
    obtain ⟨z', q1, q2, q3⟩ := h.ty80 (F := F) hw t
    refine ⟨z', ?_, q2, q3⟩
    unfold fn_X16_overType_L46
    rw [h.good, cal_s, if_neg (by decide), by1, cal_s, if_pos (show (4 : Int32) ≤ nI 4 by decide), q1]
    by_cases c : nI (b w) = 7
    · rw [if_pos c]
    · rw [if_neg c]
  | succ k ih =>
    intro r g z p w t ek hg h hw
    obtain ⟨g, rfl⟩ : ∃ k, g = k + 1 := ⟨g - 1, by omega⟩
    have by1 := h.1.byte (F := F) hw
    have b8 := (h.1.2.2.2.2 w hw).2
    conv => enter [1, z', 1, 1]; unfold fn_X16_overType_L46
    rw [h.good, cal_s, if_neg (by decide), by1, cal_s]
    unfold rTv
    by_cases c : b w = 7
    · obtain ⟨z1, s1, s2, s3⟩ := h.over1 (F := F)
      rw [if_pos ((nIe (x := 7) 7 rfl (by omega) (by omega)).mpr c), if_neg (fun x => by have := (nIge (x := 4) 4 rfl (by omega) (by omega)).mp x; omega), s1, cal_s, if_pos c, nI_1]
      cases e : rBy b len p with
      | error x =>
        rw [e] at s2
        refine ⟨z1, UF.ty46 (F := F) s2 (by omega) _ _, s2, s3⟩
      | ok x =>
        rw [e] at s2
        obtain ⟨e1, e2⟩ := rBy_ok e
        subst e2
        have s2' : US sh n z1 ku b len (p + 1) := s2
        obtain ⟨z2, t1, t2, t3⟩ := ih (r + 1) g z1 (p + 1) p (t ++ [7]) (by omega) (by omega) s2' e1
        exact ⟨z2, t1, t2, s3.trans t3⟩
    · obtain ⟨z', q1, q2, q3⟩ := h.ty80 (F := F) hw t
      rw [if_neg (fun x => c ((nIe (x := 7) 7 rfl (by omega) (by omega)).mp x)), if_neg c, q1]
      exact ⟨z', rfl, q2, q3⟩
theorem US.overType (hF : 300 ≤ F) (h : US sh n z ku b len p) (rf : Bool) : ∃ z', fn_X16_overType F sh n z ku (bI rf) = some (z', ()) ∧ UP sh n z' ku b len (rT b len none rf p) ∧ FrCu ku z z' := by
  obtain ⟨z1, s1, s2, s3⟩ := h.over1 (F := F)
  unfold fn_X16_overType rT
  rw [h.1.o, grd_true, s1, cal_s]
  cases e : rBy b len p with
  | error x =>
    rw [e] at s2
    rw [UF.good (F := F) s2, cal_s, if_pos rfl]
    exact ⟨z1, rfl, s2, s3⟩
  | ok x =>
    rw [e] at s2
    obtain ⟨e1, e2⟩ := rBy_ok e
    subst e2
    have s2' : US sh n z1 ku b len (p + 1) := s2
    have by1 := s2'.1.byte (F := F) e1
    have b8 := (h.1.2.2.2.2 p e1).2
    rw [s2'.good, cal_s, if_neg (show ¬ (1 : Int32) = 0 by decide), ok_bq]
    have b44 : ∀ w t z2 q, w < len → US sh n z2 ku b len q → ∃ z', fn_X16_overType_B44 F sh n ku z2 (nI w) = some (z', ()) ∧ UP sh n z' ku b len (rTv b len none 4 t w (b w) q) ∧ FrCu ku z2 z' := fun w t z2 q hw h2 => US.ty46 (F := F) 4 0 F z2 q w t (by omega) (by omega) h2 hw
    have b38 : ∃ z', fn_X16_overType_B38 F sh n ku z1 = some (z', ()) ∧ UP sh n z' ku b len (rBy b len (p + 1) >>= fun r => rTv b len none 4 [b p] (p + 1) r.1 r.2) ∧ FrCu ku z1 z' := by
      obtain ⟨z2, t1, t2, t3⟩ := s2'.over1 (F := F)
      unfold fn_X16_overType_B38
      rw [t1, cal_s]
      cases e2 : rBy b len (p + 1) with
      | error x =>
        rw [e2] at t2
        exact ⟨z2, UF.ty46 (F := F) t2 (by omega) _ _, t2, t3⟩
      | ok x =>
        rw [e2] at t2
        obtain ⟨g1, g2⟩ := rBy_ok e2
        subst g2
        have t2' : US sh n z2 ku b len (p + 2) := t2
        obtain ⟨z3, u1, u2, u3⟩ := b44 (p + 1) [b p] z2 (p + 2) g1 t2'
        exact ⟨z3, u1, u2, t3.trans u3⟩
    show ∃ z', _ ∧ UP sh n z' ku b len (if (rf && (b p == 8 || b p == 9)) = true then _ else _) ∧ _
    cases rf with
    | false =>
      rw [if_pos (show bI false = 0 from rfl), if_neg (by simp)]
      obtain ⟨z3, u1, u2, u3⟩ := b44 p [] z1 (p + 1) e1 s2'
      exact ⟨z3, u1, u2, s3.trans u3⟩
    | true =>
      obtain ⟨z3, u1, u2, u3⟩ := b38
      rw [if_neg (show ¬ bI true = 0 from one0), by1, cal_s, by1, cal_s, u1, Bool.true_and]
      by_cases c8 : b p = 8
      · rw [if_pos ((nIe (x := 8) 8 rfl (by omega) (by omega)).mpr c8), if_pos (by rw [c8]; rfl)]
        exact ⟨z3, rfl, u2, s3.trans u3⟩
      rw [if_neg (fun x => c8 ((nIe (x := 8) 8 rfl (by omega) (by omega)).mp x))]
      by_cases c9 : b p = 9
      · rw [if_pos ((nIe (x := 9) 9 rfl (by omega) (by omega)).mpr c9), if_pos (by rw [c9]; rfl)]
        exact ⟨z3, rfl, u2, s3.trans u3⟩
      · rw [if_neg (fun x => c9 ((nIe (x := 9) 9 rfl (by omega) (by omega)).mp x)), if_neg (by simp [c8, c9])]
        obtain ⟨z4, v1, v2, v3⟩ := b44 p [] z1 (p + 1) e1 s2'
        exact ⟨z4, v1, v2, s3.trans v3⟩
theorem rN_le {lo hi : Nat} {q : Nat × Nat} (h : rN b len lo hi p = .ok q) : lo ≤ q.1 ∧ q.1 ≤ hi ∧ q.1 = b p ∧ p < len ∧ q.2 = p + 1 := by
  unfold rN at h
  cases e : rBy b len p with
  | error x => rw [e] at h; cases h
  | ok x =>
    obtain ⟨e1, e2⟩ := rBy_ok e
    subst e2
    rw [e, ok_bq] at h
    have h' : (if b p < lo ∨ hi < b p then .error (3, p) else .ok (b p, p + 1) : Ex (Nat × Nat)) = .ok q := h
    by_cases c : b p < lo ∨ hi < b p
    · rw [if_pos c] at h'; cases h'
    · rw [if_neg c] at h'; cases h'
      exact ⟨by show lo ≤ b p; omega, by show b p ≤ hi; omega, rfl, e1, rfl⟩
theorem US.overTs (hF : 300 ≤ F) (rf : Bool) {m : Nat} (hm : m < 256) : ∀ k r g z p, r + k = m → k < g → US sh n z ku b len p → ∃ z', fn_X16_overList_L10 F sh n (nI m) ku (bI rf) g z (nI r) = some (z', ()) ∧ UP sh n z' ku b len (pTs b len none rf k p) ∧ FrCu ku z z' := by
  intro k
  induction k with
  | zero =>
    intro r g z p ek hg h
    obtain ⟨g, rfl⟩ : ∃ k, g = k + 1 := ⟨g - 1, by omega⟩
    unfold fn_X16_overList_L10 pTs
    rw [if_pos ((nI_leI (by omega) (by omega)).mpr (by omega))]
    exact ⟨z, rfl, h, FrCu.rfl'⟩
  | succ k ih =>
    intro r g z p ek hg h
    obtain ⟨g, rfl⟩ : ∃ k, g = k + 1 := ⟨g - 1, by omega⟩
    obtain ⟨z1, s1, s2, s3⟩ := h.overType (F := F) hF rf
    conv => enter [1, z', 1, 1]; unfold fn_X16_overList_L10
    unfold pTs
    rw [if_neg (fun x => by have := (nI_leI (by omega) (by omega)).mp x; omega), h.good, cal_s, if_neg (by decide), s1, cal_s, nI_1]
    cases e : rT b len none rf p with
    | error x =>
      rw [e] at s2
      obtain ⟨g', rfl⟩ : ∃ k, g = k + 1 := ⟨g - 1, by omega⟩
      refine ⟨z1, ?_, s2, s3⟩
      unfold fn_X16_overList_L10
      rw [UF.good (F := F) s2, cal_s, if_pos rfl]
      by_cases c : nI m ≤ nI (r + 1)
      · rw [if_pos c]
      · rw [if_neg c]
    | ok x =>
      rw [e] at s2
      have s2' : US sh n z1 ku b len x.2 := s2
      obtain ⟨z2, t1, t2, t3⟩ := ih (r + 1) g z1 x.2 (by omega) (by omega) s2'
      refine ⟨z2, t1, ?_, s3.trans t3⟩
      rw [ok_bq]
      cases e2 : pTs b len none rf k x.2 with
      | error y => rw [e2] at t2; exact t2
      | ok y => rw [e2] at t2; exact t2
theorem US.overList (hF : 300 ≤ F) (h : US sh n z ku b len p) {most : Nat} (hm : most < 256) : ∃ z', fn_X16_overList F sh n z ku (nI most) 1 = some (z', ()) ∧ UP sh n z' ku b len (pLs b len none most p) ∧ FrCu ku z z' := by
  obtain ⟨z1, s1, s2, s3⟩ := h.count (F := F) (lo := 0) (hi := most) (by omega) hm
  have s1' : fn_X16_count F sh n z ku 0 (nI most) = some (z1, nI (vN (rN b len 0 most p))) := s1
  unfold fn_X16_overList pLs
  rw [h.1.o, grd_true, s1', cal_s]
  cases e : rN b len 0 most p with
  | error x =>
    rw [e] at s2
    obtain ⟨g', eg⟩ : ∃ k, F = k + 1 := ⟨F - 1, by omega⟩
    refine ⟨z1, ?_, s2, s3⟩
    show fn_X16_overList_L10 F sh n (nI 0) ku 1 F z1 0 = _
    have : ∀ G, G = g' + 1 → fn_X16_overList_L10 F sh n (nI 0) ku 1 G z1 0 = some (z1, ()) := fun G e => by
      subst e
      unfold fn_X16_overList_L10
      rw [if_pos (show nI 0 ≤ 0 by decide)]
    exact this F eg
  | ok x =>
    rw [e] at s2
    obtain ⟨l1, l2, _⟩ := rN_le e
    have s2' : US sh n z1 ku b len x.2 := s2
    obtain ⟨z2, t1, t2, t3⟩ := US.overTs (F := F) hF true (m := x.1) (by omega) x.1 0 F z1 x.2 (by omega) (by omega) s2'
    exact ⟨z2, t1, t2, s3.trans t3⟩
end
