/-! THE CLASS'S LOOKER: resources, rows of values -/
section
variable {F n : Nat} {sh : Nat → Nat × Nat} {z z' : St} {kp f w ns : Nat} {ls : List Ty} {L : Lks} {U : Md}
theorem CK.keep (hF : 300 ≤ F) (h : CK sh n z kp f ls U.1.2.2 L) (hu : ∀ z', FrQc z z' → CnL F sh n z' kp U) (hm : MdO U) (hf : f < faOf U) {o a : Nat} (o1 : 47 ≤ o) (o2 : o < 52) (ha : a < U.1.2.1) : ∃ z', fn_X3_keep F sh n z 62 (nI o) (nI a) = some (z', ()) ∧ CR sh n z' kp f ls U.1.2.2 (aRes U ls f o a L) ∧ FrQc z z' := by
  have hsz := hm.2.1
  have a64 : a < 64 := by omega
  have ts : TBr U.1.2.2 [6, a] := TBrs (by omega) (by omega)
  have b64 : 48 + a % 15 < 64 := by omega
  have k0 : CR sh n z kp f ls U.1.2.2 (.ok L) := h
  have E : ∀ (m : Nat) (x : Int32), x = nI m → m < 100 → (nI o = x ↔ o = m) := fun m x e hm => nIe m e (by omega) (by omega)
  have f8 := (hm.2.2.2.2 f hf).1
  have st : ∀ (T : Ty) (x : Int64), TB T → x = tL T → ∃ z3, fn_X3_keep_B30 F sh n 62 (tL [6, a]) (nI o) (bitO (48 + a % 15)) z x = fn_X3_keep_B70 F sh n (nI o) 62 (bitO (48 + a % 15)) (tL [6, a]) z3 ∧ CR sh n z3 kp f ls U.1.2.2 (lTakeT T L >>= fun L => nd_ (resOf U f) 15 >>= fun _ => nd_ (hasK U [6, a]) 4 >>= fun _ => .ok L) ∧ FrQc z z3 := fun T x tb ex => by
    obtain ⟨z1, q1, q2, q3⟩ := k0.only (F := F) (t := T) (x := x) (fun _ _ => ⟨tb, ex⟩)
    have u1 := hu z1 q3
    obtain ⟨z2, s1, s2, s3, _⟩ := q2.chkI (F := F) (c := nI (fnOf U f).1 &&& 4 = 0) (v := 15) (iv := 15) rfl (by omega) (by omega) (g := fun _ => resOf U f) (fun M _ => by
      rw [fl4 _ f8]
      unfold resOf
      rw [beq_eq_false_iff_ne]
      omega) (k := fun z => fn_X3_keep_B55 F sh n 62 (tL [6, a]) (nI o) (bitO (48 + a % 15)) z)
    have hs := (s2.has_c (U := U) hF (hu z2 (q3.trans s3)) hm ts).2.2
    obtain ⟨z3, p1, p2, p3, _⟩ := s2.chk (F := F) (v := 4) (iv := 4) rfl (by omega) (by omega) (g := fun _ => hasK U [6, a]) (X := fn_X3_has F sh n z2 62 (tL [6, a]) 8) (fun M _ => hs) (fun w _ => ⟨_, hs⟩) (k := fun z => fn_X3_keep_B70 F sh n (nI o) 62 (bitO (48 + a % 15)) (tL [6, a]) z)
    refine ⟨z3, ?_, ?_, (q3.trans s3).trans p3⟩
    · unfold fn_X3_keep_B30
      rw [h.cb.o3, grd_true, q1, cal_s, q2.lk, lnk_s, u1.1, grd_true, q2.fn, ((u1.2.1 f hf).1).2.2, cal_s, s1]
      unfold fn_X3_keep_B55
      rw [p1]
    · simpa only [bA, ok_b] using p2
  have lv : ∀ (z3 : St) (r : Px Lks) (wr : Bool), CR sh n z3 kp f ls U.1.2.2 r → ∃ z4, fn_X3_keep_B96 F sh n 62 (bitO (48 + a % 15)) (nI o) (tL [6, a]) z3 (bI wr) = fn_X3_keep_B108 F sh n (nI o) 62 (tL [6, a]) (bitO (48 + a % 15)) z4 ∧ CR sh n z4 kp f ls U.1.2.2 (r >>= fun L => nd_ (!lPt ls L (48 + a % 15) wr) 6 >>= fun _ => .ok L) ∧ FrQc z3 z4 := fun z3 r wr k3 => by
    obtain ⟨l1, l2⟩ := k3.live_c (F := F) hF (x := bitO (48 + a % 15)) (wr := wr)
    obtain ⟨z4, q1, q2, q3, _⟩ := k3.chkN (F := F) (v := 6) (iv := 6) rfl (by omega) (by omega) (g := fun M => lPt ls M (48 + a % 15) wr) (X := fn_X3_isLive F sh n z3 62 (bitO (48 + a % 15)) (bI wr)) (fun M e => by rw [l1 M e, lvB_pt ls M b64]) l2 (k := fun z => fn_X3_keep_B108 F sh n (nI o) 62 (tL [6, a]) (bitO (48 + a % 15)) z)
    exact ⟨z4, q1, q2, q3⟩
  have pr8 : ∀ z9, fn_X5_prefixed F sh n z9 8 (tL [6, a]) = some (z9, tL (8 :: [6, a])) := fun z9 => prefC_t (F := F) (z := z9) (sh := sh) (n := n) hF (b := 8) (by omega) ts.1 (by simp)
  have pr9 : ∀ z9, fn_X5_prefixed F sh n z9 9 (tL [6, a]) = some (z9, tL (9 :: [6, a])) := fun z9 => prefC_t (F := F) (z := z9) (sh := sh) (n := n) hF (b := 9) (by omega) ts.1 (by simp)
  unfold fn_X3_keep aRes
  rw [stC_t (by omega), cal_s, m15 a a64, lt_t, bit_n b64]
  by_cases c47 : o = 47
  · obtain ⟨z3, q1, q2, q3⟩ := st [6, a] (tL [6, a]) ts.1 rfl
    rw [if_pos ((E 47 47 rfl (by omega)).mpr c47), if_pos c47, q1]
    refine ⟨z3, ?_, ?_, q3⟩
    · unfold fn_X3_keep_B70
      rw [if_neg (fun q => by have := (E 48 48 rfl (by omega)).mp q; omega), if_pos ((nIlt (x := 50) 50 rfl (by omega) (by omega)).mpr (by omega))]
      unfold fn_X3_keep_B108
      rw [if_neg (fun q => by have := (E 48 48 rfl (by omega)).mp q; omega), if_neg (fun q => by have := (E 49 49 rfl (by omega)).mp q; omega), if_pos ((nIlt (x := 50) 50 rfl (by omega) (by omega)).mpr (by omega))]
    · subst c47
      exact q2
  obtain ⟨z3, q1, q2, q3⟩ := st [5] 5 (TBk (by omega) (by omega)) (by rw [tLk]; rfl)
  rw [if_neg (fun q => c47 ((E 47 47 rfl (by omega)).mp q)), if_neg c47, q1]
  unfold fn_X3_keep_B70
  by_cases c49 : o = 49
  · obtain ⟨z4, s1, s2, s3⟩ := q2.put (F := F) (t := [1]) (x := 1) (fun _ _ => ⟨TBrk (by omega) (by omega), by rw [tLk]; rfl⟩)
    rw [if_neg (fun q => by have := (E 48 48 rfl (by omega)).mp q; omega), if_pos ((nIlt (x := 50) 50 rfl (by omega) (by omega)).mpr (by omega))]
    unfold fn_X3_keep_B108
    rw [if_neg (fun q => by have := (E 48 48 rfl (by omega)).mp q; omega), if_pos ((E 49 49 rfl (by omega)).mpr c49), s1, cal_s]
    refine ⟨z4, rfl, ?_, q3.trans s3⟩
    subst c49
    simp only [bA, ok_b] at s2
    exact s2
  have cs : o = 48 ∨ o = 50 ∨ o = 51 := by omega
  have e82 : (if nI o = 48 then fn_X3_keep_B82 F sh n (nI o) 62 (bitO (48 + a % 15)) (tL [6, a]) z3 else if nI o < 50 then fn_X3_keep_B108 F sh n (nI o) 62 (tL [6, a]) (bitO (48 + a % 15)) z3 else fn_X3_keep_B82 F sh n (nI o) 62 (bitO (48 + a % 15)) (tL [6, a]) z3) = fn_X3_keep_B82 F sh n (nI o) 62 (bitO (48 + a % 15)) (tL [6, a]) z3 := by
    by_cases d : o = 48
    · rw [if_pos ((E 48 48 rfl (by omega)).mpr d)]
    · rw [if_neg (fun q => d ((E 48 48 rfl (by omega)).mp q)), if_neg (fun q => by have := (nIlt (x := 50) 50 rfl (by omega) (by omega)).mp q; omega)]
  rw [e82]
  unfold fn_X3_keep_B82
  rcases cs with c | c | c
  · obtain ⟨z4, s1, s2, s3⟩ := lv z3 _ false q2
    obtain ⟨z5, p1, p2, p3⟩ := s2.put (F := F) (t := [6, a]) (x := tL [6, a]) (fun _ _ => ⟨ts, rfl⟩)
    have s1' : fn_X3_keep_B96 F sh n 62 (bitO (48 + a % 15)) (nI o) (tL [6, a]) z3 0 = _ := s1
    rw [if_neg (fun q => by have := (E 50 50 rfl (by omega)).mp q; omega), s1']
    unfold fn_X3_keep_B108
    rw [if_pos ((E 48 48 rfl (by omega)).mpr c), p1, cal_s]
    refine ⟨z5, rfl, ?_, (q3.trans s3).trans p3⟩
    subst c
    simp only [bA, ok_b] at p2
    exact p2
  · obtain ⟨z4, s1, s2, s3⟩ := lv z3 _ true q2
    obtain ⟨z5, p1, p2, p3⟩ := s2.putR (F := F) (t := 8 :: [6, a]) (x := tL (8 :: [6, a])) (o := bitO (48 + a % 15)) (b := false) (fun _ _ => ⟨ts.bor rfl (by simp) (.inl rfl), rfl, fun r => by simp [isR, hdT] at r⟩)
    have s1' : fn_X3_keep_B96 F sh n 62 (bitO (48 + a % 15)) (nI o) (tL [6, a]) z3 1 = _ := s1
    have p1' : fn_X3_putReference F sh n z4 62 (tL (8 :: [6, a])) (bitO (48 + a % 15)) 0 = _ := p1
    rw [if_pos ((E 50 50 rfl (by omega)).mpr c), s1']
    unfold fn_X3_keep_B108
    rw [if_neg (fun q => by have := (E 48 48 rfl (by omega)).mp q; omega), if_neg (fun q => by have := (E 49 49 rfl (by omega)).mp q; omega), if_neg (fun q => by have := (nIlt (x := 50) 50 rfl (by omega) (by omega)).mp q; omega), if_neg (fun q => by have := (E 51 51 rfl (by omega)).mp q; omega), pr8, cal_s, p1', cal_s]
    refine ⟨z5, rfl, ?_, (q3.trans s3).trans p3⟩
    subst c
    simp only [bA, ok_b] at p2
    exact p2
  · obtain ⟨z4, s1, s2, s3⟩ := lv z3 _ false q2
    obtain ⟨z5, p1, p2, p3⟩ := s2.putR (F := F) (t := 9 :: [6, a]) (x := tL (9 :: [6, a])) (o := bitO (48 + a % 15)) (b := false) (fun _ _ => ⟨ts.bor rfl (by simp) (.inr rfl), rfl, fun r => by simp [isR, hdT] at r⟩)
    have s1' : fn_X3_keep_B96 F sh n 62 (bitO (48 + a % 15)) (nI o) (tL [6, a]) z3 0 = _ := s1
    have p1' : fn_X3_putReference F sh n z4 62 (tL (9 :: [6, a])) (bitO (48 + a % 15)) 0 = _ := p1
    rw [if_neg (fun q => by have := (E 50 50 rfl (by omega)).mp q; omega), s1']
    unfold fn_X3_keep_B108
    rw [if_neg (fun q => by have := (E 48 48 rfl (by omega)).mp q; omega), if_neg (fun q => by have := (E 49 49 rfl (by omega)).mp q; omega), if_neg (fun q => by have := (nIlt (x := 50) 50 rfl (by omega) (by omega)).mp q; omega), if_pos ((E 51 51 rfl (by omega)).mpr c), pr9, cal_s, p1', cal_s]
    refine ⟨z5, rfl, ?_, (q3.trans s3).trans p3⟩
    subst c
    simp only [bA, ok_b] at p2
    exact p2
theorem CB.refTo_e (hF : 300 ≤ F) (h : CB sh n z kp f w) (hw : 0 < w) (x : Int64) (wr : Int32) : ∃ z', fn_X3_takeReferenceTo F sh n z 62 x wr = some (z', ()) ∧ CB sh n z' kp f w ∧ FrQc z z' := by
  obtain ⟨z1, y, q1, q2, q3⟩ := h.take_e (F := F) hw
  obtain ⟨r1, e1⟩ := isRef_e (F := F) (z := z1) (sh := sh) (n := n) hF y
  obtain ⟨r2, e2⟩ := point_e (F := F) (z := z1) (sh := sh) (n := n) hF y
  obtain ⟨r3, e3⟩ := writes_e (F := F) (z := z1) (sh := sh) (n := n) hF y
  refine ⟨z1, ?_, q2, q3⟩
  unfold fn_X3_takeReferenceTo
  rw [h.o3, grd_true, q1, cal_s, e1, cal_s, q2.fail_e hw, cal_s, e2, cal_s]
  by_cases c1 : r1 = 0
  · rw [if_pos c1]
  rw [if_neg c1]
  by_cases c2 : r2 = x
  · rw [if_pos c2]
    by_cases c3 : wr = 0
    · rw [if_pos c3]
    rw [if_neg c3, e3, cal_s, q2.fail_e hw, cal_s]
    by_cases c4 : r3 = 0
    · rw [if_pos c4]
    · rw [if_neg c4]
  · rw [if_neg c2, q2.fail_e hw, cal_s]
theorem CR.refTo (hF : 300 ≤ F) {r : Px Lks} (h : CR sh n z kp f ls ns r) {t : Ty} (ht : TB t) (wr : Bool) : ∃ z', fn_X3_takeReferenceTo F sh n z 62 (tL t) (bI wr) = some (z', ()) ∧ CT sh n z' kp f ls ns (r >>= lTakeR (some t) wr) ∧ FrQc z z' := by
  cases r with
  | error w =>
    obtain ⟨z1, q1, q2, q3⟩ := h.2.refTo_e (F := F) hF h.1 (tL t) (bI wr)
    exact ⟨z1, q1, ⟨h.1, q2⟩, q3⟩
  | ok M => exact CK.refTo hF h ht wr
theorem CK.lineUp (hF : 300 ≤ F) (h : CK sh n z kp f ls U.1.2.2 L) (hu : ∀ z', FrQc z z' → CnL F sh n z' kp U) (hm : MdO U) {o a b : Nat} {xa xb : Int32} (he : ∃ r, fn_X5_elementType F sh n z kp xa = some (z, r)) (ha : o ≠ 59 → xa = nI a) (hb : o = 52 → xb = nI b) (b8 : b < 256) (o1 : 52 ≤ o) (o2 : o < 60) (hab : o ≠ 59 → a < (elsOf U).length) : ∃ z', fn_X3_lineUp F sh n z 62 (nI o) xa xb = some (z', ()) ∧ CR sh n z' kp f ls U.1.2.2 (aVec U ls o a b L) ∧ FrQc z z' := by
  have u0 := hu z FrQc.rfl'
  have k0 : CR sh n z kp f ls U.1.2.2 (.ok L) := h
  have E : ∀ (m : Nat) (x : Int32), x = nI m → m < 100 → (nI o = x ↔ o = m) := fun m x e hm => nIe m e (by omega) (by omega)
  unfold fn_X3_lineUp aVec
  rw [h.cb.o3, grd_true, h.2.1, lnk_s, u0.1, grd_true]
  by_cases c59 : o = 59
  · obtain ⟨r, er⟩ := he
    obtain ⟨y, ey⟩ := pref_e (F := F) (z := z) (sh := sh) (n := n) hF 7 r
    have t72 : TBr U.1.2.2 [7, 2] := ⟨⟨by simp, ⟨by show 1 ≤ 7; omega, by show 7 ≤ 9; omega⟩, fun b hb => by simp at hb; omega⟩, fun q => by simp [isR, hdT] at q, fun s q => by simp [endS] at q⟩
    have pr : ∀ z9, fn_X5_prefixed F sh n z9 7 2 = some (z9, tL [7, 2]) := fun z9 => by
      have := prefC_t (F := F) (z := z9) (sh := sh) (n := n) hF (b := 7) (by omega) (TBk (k := 2) (by omega) (by omega)) (by simp)
      rw [tLk] at this
      exact this
    obtain ⟨z1, q1, q2, q3⟩ := k0.only (F := F) (t := [7, 2]) (x := tL [7, 2]) (fun _ _ => ⟨t72.1, rfl⟩)
    obtain ⟨z2, s1, s2, s3⟩ := q2.put (F := F) (t := [7, 2]) (x := tL [7, 2]) (fun _ _ => ⟨t72, rfl⟩)
    rw [er, cal_s, ey, cal_s, if_neg (fun q => by have := (E 52 52 rfl (by omega)).mp q; omega), if_pos ((E 59 59 rfl (by omega)).mpr c59), pr, cal_s, q1, cal_s, pr, cal_s, s1, cal_s, if_pos c59]
    exact ⟨z2, rfl, s2, q3.trans s3⟩
  have ha' := hab c59
  rw [ha c59, u0.2.2.2.2 a ha', cal_s, if_neg c59]
  have pl : PlO U.1.2.2 ((elsOf U).getD a []) := hm.2.2.2.1 _ (getD_mem ha')
  have pv := pl.vec
  have pr7 := prefC_t (F := F) (z := z) (sh := sh) (n := n) hF (b := 7) (by omega) pl.1.1 pl.2.2
  have pr7' : fn_X5_prefixed F sh n z 7 (tL ((elsOf U).getD a [])) = some (z, tL (7 :: (elsOf U).getD a [])) := pr7
  have pr8 : ∀ z9, fn_X5_prefixed F sh n z9 8 (tL ((elsOf U).getD a [])) = some (z9, tL (8 :: (elsOf U).getD a [])) := fun z9 => prefC_t (F := F) (z := z9) (sh := sh) (n := n) hF (b := 8) (by omega) pl.1.1 pl.2.2
  have pr9 : ∀ z9, fn_X5_prefixed F sh n z9 9 (tL ((elsOf U).getD a [])) = some (z9, tL (9 :: (elsOf U).getD a [])) := fun z9 => prefC_t (F := F) (z := z9) (sh := sh) (n := n) hF (b := 9) (by omega) pl.1.1 pl.2.2
  rw [pr7', cal_s, if_neg (fun q => c59 ((E 59 59 rfl (by omega)).mp q))]
  show ∃ z', _ ∧ CR sh n z' kp f ls U.1.2.2 (if o = 52 then _ else _) ∧ _
  generalize (elsOf U).getD a [] = e at *
  by_cases c52 : o = 52
  · rw [if_pos ((E 52 52 rfl (by omega)).mpr c52), if_pos c52, hb c52]
    have lp : ∀ r p g z1 rr, p + r = b → r < g → CR sh n z1 kp f ls U.1.2.2 rr → ∃ z', fn_X3_lineUp_L28 F sh n (nI b) 62 (tL (7 :: e)) (tL e) g z1 (nI p) = some (z', ()) ∧ CR sh n z' kp f ls U.1.2.2 (rr >>= aTakes (List.replicate r e) >>= lPush (7 :: e, 0, false)) ∧ FrQc z1 z' := by
      intro r
      induction r with
      | zero =>
        intro p g z1 rr ep hg T
        obtain ⟨g, rfl⟩ : ∃ q, g = q + 1 := ⟨g - 1, by omega⟩
        obtain ⟨z2, p1, p2, p3⟩ := T.put (F := F) (t := 7 :: e) (x := tL (7 :: e)) (fun _ _ => ⟨pv.1, rfl⟩)
        conv => enter [1, z', 1, 1]; unfold fn_X3_lineUp_L28
        rw [if_pos ((nI_leI (by omega) (by omega)).mpr (by omega)), p1, cal_s]
        refine ⟨z2, rfl, ?_, p3⟩
        cases rr <;> exact p2
      | succ r ih =>
        intro p g z1 rr ep hg T
        obtain ⟨g, rfl⟩ : ∃ q, g = q + 1 := ⟨g - 1, by omega⟩
        obtain ⟨z2, p1, p2, p3⟩ := T.only (F := F) (t := e) (x := tL e) (fun _ _ => ⟨pl.1.1, rfl⟩)
        obtain ⟨z3, s1, s2, s3⟩ := ih (p + 1) g z2 _ (by omega) (by omega) p2
        conv => enter [1, z', 1, 1]; unfold fn_X3_lineUp_L28
        rw [if_neg (fun q => by have := (nI_leI (by omega) (by omega)).mp q; omega), p1, cal_s, nI_1]
        refine ⟨z3, s1, ?_, p3.trans s3⟩
        rw [List.replicate_succ]
        rw [px_assoc rr] at s2
        exact s2
    exact lp b 0 F z (.ok L) (by omega) (by omega) k0
  rw [if_neg (fun q => c52 ((E 52 52 rfl (by omega)).mp q)), if_neg c52]
  -- from the vector on
  have b177e : ∀ z9 w, CB sh n z9 kp f w → 0 < w → ∃ z', fn_X3_lineUp_B177 F sh n (nI o) 62 (tL e) z9 = some (z', ()) ∧ CB sh n z' kp f w ∧ FrQc z9 z' := fun z9 w k9 w0 => by
    unfold fn_X3_lineUp_B177
    by_cases d1 : nI o = 53
    · rw [if_pos d1]
      obtain ⟨z1, q1, q2, q3⟩ := k9.putp_x (F := F) w0 3
      rw [q1, cal_s]; exact ⟨z1, rfl, q2, q3⟩
    rw [if_neg d1]
    by_cases d2 : nI o = 57
    · rw [if_pos d2]
      obtain ⟨z1, q1, q2, q3⟩ := k9.putp_x (F := F) w0 (tL e)
      rw [q1, cal_s]; exact ⟨z1, rfl, q2, q3⟩
    rw [if_neg d2]
    by_cases d3 : (55 : Int32) < nI o
    · rw [if_pos d3]; exact ⟨z9, rfl, k9, FrQc.rfl'⟩
    rw [if_neg d3, pr8, cal_s, pr9, cal_s]
    by_cases d4 : nI o = 55
    · rw [if_pos d4]
      obtain ⟨z1, q1, q2, q3⟩ := k9.put_x (F := F) w0 (tL (9 :: e)) (z9.2.1 62 14) 1
      rw [q1, cal_s]; exact ⟨z1, rfl, q2, q3⟩
    · rw [if_neg d4]
      obtain ⟨z1, q1, q2, q3⟩ := k9.put_x (F := F) w0 (tL (8 :: e)) (z9.2.1 62 14) 1
      rw [q1, cal_s]; exact ⟨z1, rfl, q2, q3⟩
  have b177 : ∀ z9 (q : SS × Lks), CK sh n z9 kp f ls U.1.2.2 q.2 → tknC z9 q.1 → ∃ z', fn_X3_lineUp_B177 F sh n (nI o) 62 (tL e) z9 = some (z', ()) ∧ CR sh n z' kp f ls U.1.2.2 (if o = 53 then lPush ([3], 0, false) q.2 else if o = 57 then lPush (e, 0, false) q.2 else if o < 56 then lPush ((if o = 55 then 9 else 8) :: e, q.1.2.1, true) q.2 else .ok q.2) ∧ FrQc z9 z' := fun z9 q k9 tk => by
    have k9' : CR sh n z9 kp f ls U.1.2.2 (.ok q.2) := k9
    unfold fn_X3_lineUp_B177
    by_cases d1 : o = 53
    · obtain ⟨z1, q1, q2, q3⟩ := k9'.put (F := F) (t := [3]) (x := 3) (fun _ _ => ⟨TBrk (by omega) (by omega), by rw [tLk]; rfl⟩)
      rw [if_pos ((E 53 53 rfl (by omega)).mpr d1), if_pos d1, q1, cal_s]; exact ⟨z1, rfl, q2, q3⟩
    rw [if_neg (fun q => d1 ((E 53 53 rfl (by omega)).mp q)), if_neg d1]
    by_cases d2 : o = 57
    · obtain ⟨z1, q1, q2, q3⟩ := k9'.put (F := F) (t := e) (x := tL e) (fun _ _ => ⟨pl.1, rfl⟩)
      rw [if_pos ((E 57 57 rfl (by omega)).mpr d2), if_pos d2, q1, cal_s]; exact ⟨z1, rfl, q2, q3⟩
    rw [if_neg (fun q => d2 ((E 57 57 rfl (by omega)).mp q)), if_neg d2]
    by_cases d3 : o < 56
    · rw [if_neg (fun q => by have := (nIgt (x := 55) 55 rfl (by omega) (by omega)).mp q; omega), if_pos d3, pr8, cal_s, pr9, cal_s, tk.1]
      by_cases d4 : o = 55
      · obtain ⟨z1, q1, q2, q3⟩ := k9.put (F := F) (pl.1.bor pl.2.1 pl.2.2 (.inr rfl)) q.1.2.1 true (fun r => by simp [isR, hdT] at r)
        have q1' : fn_X3_putReference F sh n z9 62 (tL (9 :: e)) q.1.2.1 1 = some (z1, ()) := q1
        rw [if_pos ((E 55 55 rfl (by omega)).mpr d4), if_pos d4, q1', cal_s]; exact ⟨z1, rfl, q2, q3⟩
      · obtain ⟨z1, q1, q2, q3⟩ := k9.put (F := F) (pl.1.bor pl.2.1 pl.2.2 (.inl rfl)) q.1.2.1 true (fun r => by simp [isR, hdT] at r)
        have q1' : fn_X3_putReference F sh n z9 62 (tL (8 :: e)) q.1.2.1 1 = some (z1, ()) := q1
        rw [if_neg (fun q => d4 ((E 55 55 rfl (by omega)).mp q)), if_neg d4, q1', cal_s]; exact ⟨z1, rfl, q2, q3⟩
    · rw [if_pos ((nIgt (x := 55) 55 rfl (by omega) (by omega)).mpr (by omega)), if_neg d3]
      exact ⟨z9, rfl, k9, FrQc.rfl'⟩
  have b137 : ∀ z1 (r : Px Lks), CR sh n z1 kp f ls U.1.2.2 r → ∃ z', fn_X3_lineUp_B137 F sh n (nI o) 62 (tL (7 :: e)) (tL e) z1 = some (z', ()) ∧ CR sh n z' kp f ls U.1.2.2 (r >>= fun L => lTakeR (some (7 :: e)) (decide (54 < o)) L >>= fun q => nd_ (!decide (55 < o) || lSole ls q.2 q.1.2.1) 6 >>= fun _ => if o = 53 then lPush ([3], 0, false) q.2 else if o = 57 then lPush (e, 0, false) q.2 else if o < 56 then lPush ((if o = 55 then 9 else 8) :: e, q.1.2.1, true) q.2 else .ok q.2) ∧ FrQc z1 z' := fun z1 r k1 => by
    have e137 : fn_X3_lineUp_B137 F sh n (nI o) 62 (tL (7 :: e)) (tL e) z1 = fn_X3_lineUp_B151 F sh n 62 (tL (7 :: e)) (nI o) (tL e) z1 (bI (decide (54 < o))) := by
      unfold fn_X3_lineUp_B137
      by_cases d : o < 55
      · rw [if_pos ((nIlt (x := 55) 55 rfl (by omega) (by omega)).mpr d), decide_eq_false (show ¬ 54 < o by omega)]; rfl
      · rw [if_neg (fun q => d ((nIlt (x := 55) 55 rfl (by omega) (by omega)).mp q)), decide_eq_true (show 54 < o by omega)]; rfl
    obtain ⟨z2, q1, q2, q3⟩ := k1.refTo (F := F) hF pv.1.1 (decide (54 < o))
    rw [e137]
    unfold fn_X3_lineUp_B151
    rw [q1, cal_s, ← px_assoc]
    cases er : (r >>= lTakeR (some (7 :: e)) (decide (54 < o))) with
    | error w =>
      rw [er] at q2
      obtain ⟨z3, s1, s2, s3⟩ := b177e z2 w q2.2 q2.1
      obtain ⟨v, ev⟩ := q2.2.sole_e (F := F) hF (z2.2.1 62 14)
      refine ⟨z3, ?_, ⟨q2.1, s2⟩, q3.trans s3⟩
      rw [ev, cal_s, q2.2.fail_e q2.1, cal_s, s1]
      by_cases d : nI o < 56
      · rw [if_pos d]
      rw [if_neg d]
      by_cases d2 : v = 0
      · rw [if_pos d2]
      · rw [if_neg d2]
    | ok q =>
      rw [er] at q2
      obtain ⟨k2, tk, _, _⟩ := q2
      rw [ok_b]
      by_cases d : o < 56
      · rw [if_pos ((nIlt (x := 56) 56 rfl (by omega) (by omega)).mpr d), decide_eq_false (show ¬ 55 < o by omega)]
        obtain ⟨z3, s1, s2, s3⟩ := b177 z2 q k2 tk
        exact ⟨z3, s1, s2, q3.trans s3⟩
      · rw [if_neg (fun q => d ((nIlt (x := 56) 56 rfl (by omega) (by omega)).mp q)), decide_eq_true (show 55 < o by omega), tk.1, CK.sole hF k2, cal_s]
        cases es : lSole ls q.2 q.1.2.1 with
        | true =>
          rw [if_neg (show ¬ bI true = 0 from one0)]
          obtain ⟨z3, s1, s2, s3⟩ := b177 z2 q k2 tk
          exact ⟨z3, s1, s2, q3.trans s3⟩
        | false =>
          obtain ⟨z3, s1, s2, s3⟩ := CB.fail (F := F) (CK.cb k2) (v := 6) (by omega)
          have s1' : fn_X3_fail F sh n z2 62 6 = some (z3, ()) := s1
          obtain ⟨z4, t1, t2, t3⟩ := b177e z3 6 s2 (by omega)
          rw [if_pos (show bI false = 0 from rfl), s1', cal_s]
          exact ⟨z4, t1, ⟨by decide, t2⟩, (q3.trans s3).trans t3⟩
  have b109 : ∀ z1 (r : Px Lks), CR sh n z1 kp f ls U.1.2.2 r → ∃ z', fn_X3_lineUp_B109 F sh n (nI o) 62 (tL (7 :: e)) (tL e) z1 = some (z', ()) ∧ CR sh n z' kp f ls U.1.2.2 (r >>= fun L => (if o = 58 then lTakeT [3] L else .ok L) >>= fun L => (if o = 56 then lTakeT e L else .ok L) >>= fun L => lTakeR (some (7 :: e)) (decide (54 < o)) L >>= fun q => nd_ (!decide (55 < o) || lSole ls q.2 q.1.2.1) 6 >>= fun _ => if o = 53 then lPush ([3], 0, false) q.2 else if o = 57 then lPush (e, 0, false) q.2 else if o < 56 then lPush ((if o = 55 then 9 else 8) :: e, q.1.2.1, true) q.2 else .ok q.2) ∧ FrQc z1 z' := fun z1 r k1 => by
    unfold fn_X3_lineUp_B109
    by_cases d1 : o = 58
    · obtain ⟨z2, q1, q2, q3⟩ := k1.only (F := F) (t := [3]) (x := 3) (fun _ _ => ⟨TBk (by omega) (by omega), by rw [tLk]; rfl⟩)
      obtain ⟨z3, s1, s2, s3⟩ := b137 z2 _ q2
      rw [if_pos ((E 58 58 rfl (by omega)).mpr d1), q1, cal_s]
      refine ⟨z3, s1, ?_, q3.trans s3⟩
      rw [px_assoc] at s2
      have : ¬ o = 56 := by omega
      simp only [if_pos d1, if_neg this, ok_b]
      exact s2
    · rw [if_neg (fun q => d1 ((E 58 58 rfl (by omega)).mp q))]
      by_cases d2 : o = 56
      · obtain ⟨z2, q1, q2, q3⟩ := k1.only (F := F) (t := e) (x := tL e) (fun _ _ => ⟨pl.1.1, rfl⟩)
        obtain ⟨z3, s1, s2, s3⟩ := b137 z2 _ q2
        rw [if_pos ((E 56 56 rfl (by omega)).mpr d2), q1, cal_s]
        refine ⟨z3, s1, ?_, q3.trans s3⟩
        rw [px_assoc] at s2
        simp only [if_neg d1, if_pos d2, ok_b]
        exact s2
      · rw [if_neg (fun q => d2 ((E 56 56 rfl (by omega)).mp q))]
        simp only [if_neg d1, if_neg d2, ok_b]
        exact b137 z1 _ k1
  by_cases d0 : o = 54 ∨ o = 55 ∨ o = 58
  · have e102 : fn_X3_lineUp_B102 F sh n 62 (nI o) (tL (7 :: e)) (tL e) z = (if nI o = 54 then fn_X3_lineUp_B102 F sh n 62 (nI o) (tL (7 :: e)) (tL e) z else if nI o = 55 then fn_X3_lineUp_B102 F sh n 62 (nI o) (tL (7 :: e)) (tL e) z else if nI o = 58 then fn_X3_lineUp_B102 F sh n 62 (nI o) (tL (7 :: e)) (tL e) z else fn_X3_lineUp_B109 F sh n (nI o) 62 (tL (7 :: e)) (tL e) z) := by
      by_cases x1 : nI o = 54
      · rw [if_pos x1]
      rw [if_neg x1]
      by_cases x2 : nI o = 55
      · rw [if_pos x2]
      rw [if_neg x2]
      rw [if_pos ((E 58 58 rfl (by omega)).mpr (by
        rcases d0 with x | x | x
        · exact absurd ((E 54 54 rfl (by omega)).mpr x) x1
        · exact absurd ((E 55 55 rfl (by omega)).mpr x) x2
        · exact x))]
    rw [← e102]
    obtain ⟨z2, q1, q2, q3⟩ := k0.only (F := F) (t := [3]) (x := 3) (fun _ _ => ⟨TBk (by omega) (by omega), by rw [tLk]; rfl⟩)
    obtain ⟨z3, s1, s2, s3⟩ := b109 z2 _ q2
    unfold fn_X3_lineUp_B102
    rw [q1, cal_s, if_pos d0]
    exact ⟨z3, s1, s2, q3.trans s3⟩
  · rw [if_neg (fun q => d0 (.inl ((E 54 54 rfl (by omega)).mp q))), if_neg (fun q => d0 (.inr (.inl ((E 55 55 rfl (by omega)).mp q)))), if_neg (fun q => d0 (.inr (.inr ((E 58 58 rfl (by omega)).mp q)))), if_neg d0]
    exact b109 z _ k0
end
