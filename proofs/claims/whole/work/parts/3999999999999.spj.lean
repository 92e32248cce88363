/-! THE CLASS'S LOOKER: structures, steering, giving back -/
theorem ob_not (x : Int64) (j : Nat) : ob (x ^^^ (-1)) j = (decide (j < 64) && !ob x j) := by
  by_cases c : j < 64
  · have hm : ob (-1) j = true := by
      have : ∀ b, b < 64 → ob (-1) b = true := by decide
      exact this j c
    have hx : ob (x ^^^ (-1)) j = (ob x j ^^ ob (-1) j) := by unfold ob; rw [Int64.toBitVec_xor, BitVec.getLsbD_xor]
    rw [hx, hm, Bool.xor_true, decide_eq_true c, Bool.true_and]
  · rw [ob_64 (by omega), decide_eq_false c]; rfl
theorem ob_zero {x : Int64} : x = 0 ↔ ∀ k, ob x k = false := by
  constructor
  · intro h k
    subst h
    have e : ob 0 k = Nat.testBit (N 0) k := rfl
    rw [e, show N 0 = 0 from rfl, Nat.zero_testBit]
  · intro h
    rw [N_eq0]
    apply Nat.eq_of_testBit_eq
    intro i
    have e : ob x i = Nat.testBit (N x) i := rfl
    rw [← e, h i, Nat.zero_testBit]
/-- which locals may be dropped, as a word -/
def DrO (z : St) (U : Md) (ls : List Ty) : Prop := ∀ k, k < ls.length → ob (z.2.1 62 11) k = hasD U (ls.getD k [])
section
variable {F n : Nat} {sh : Nat → Nat × Nat} {z z' : St} {kp f w ns : Nat} {ls : List Ty} {L : Lks} {U : Md}
theorem DrO.fr (h : DrO z U ls) (g : FrQc z z') : DrO z' U ls := fun k hk => by rw [g.2.2.2.2 11 (by omega) (by omega) (by omega)]; exact h k hk
theorem CR.lk {r : Px Lks} (h : CR sh n z kp f ls ns r) : z.2.2 62 2 = some kp := by
  cases r with
  | error w => exact h.2.2.1
  | ok M => exact CK.cb h |>.2.1
theorem CR.fn {r : Px Lks} (h : CR sh n z kp f ls ns r) : z.1 62 3 = nI f := by
  cases r with
  | error w => exact h.2.2.2.1
  | ok M => exact CK.cb h |>.2.2.1
theorem dwn {m : Nat} : nI (m + 1) + (-1) = nI m := by rw [← nI_1, Int32.add_assoc, show (1 : Int32) + -1 = 0 from rfl, Int32.add_zero]
theorem dwn' {m : Nat} : nI (m + 1) - 1 = nI m := by rw [← nI_1, Int32.add_sub_cancel]
theorem neg0 : (0 : Int32) - 1 < 0 := by decide
theorem CK.pack (hF : 300 ≤ F) (h : CK sh n z kp f ls U.1.2.2 L) (hu : ∀ z', FrQc z z' → CnL F sh n z' kp U) (hm : MdO U) {o a : Nat} (o1 : o = 21 ∨ o = 22) (ha : a < U.1.2.1) : ∃ z', fn_X3_pack F sh n z 62 (bI (o == 21)) (nI a) = some (z', ()) ∧ CR sh n z' kp f ls U.1.2.2 (aPack U o a L) ∧ FrQc z z' := by
  have hsz := hm.2.1
  have ts : TBr U.1.2.2 [6, a] := TBrs (by omega) (by omega)
  have h0 : CR sh n z kp f ls U.1.2.2 (.ok L) := h
  have u0 := hu z FrQc.rfl'
  obtain ⟨l16, tys⟩ := hm.2.2.1 a ha
  unfold fn_X3_pack aPack
  rw [h.cb.o3, grd_true, h.2.1, lnk_s, u0.1, grd_true, (u0.2.2.1 a ha).1, cal_s]
  rcases o1 with e | e
  · subst e
    rw [if_neg (show ¬ bI (21 == 21) = 0 from one0), if_pos rfl, lt_t]
    have lp : ∀ r p g z1 rr v, p + r = (fdsOf U a).length → r < g → CR sh n z1 kp f ls U.1.2.2 rr → FrQc z z1 → v = nI r - 1 → ∃ z', fn_X3_pack_L18 F sh n (nI a) 62 g z1 v = some (z', ()) ∧ CR sh n z' kp f ls U.1.2.2 (rr >>= aTakes ((fdsOf U a).reverse.drop p) >>= lPush ([6, a], 0, false)) ∧ FrQc z1 z' := by
      intro r
      induction r with
      | zero =>
        intro p g z1 rr v ep hg T fz ev
        obtain ⟨g, rfl⟩ : ∃ q, g = q + 1 := ⟨g - 1, by omega⟩
        obtain ⟨z2, p1, p2, p3⟩ := T.put (F := F) (t := [6, a]) (x := tL [6, a]) (fun _ _ => ⟨ts, rfl⟩)
        conv => enter [1, z', 1, 1]; unfold fn_X3_pack_L18
        rw [ev, if_pos (show nI 0 - 1 < 0 from neg0), stC_t (by omega), cal_s, p1, cal_s]
        refine ⟨z2, rfl, ?_, p3⟩
        rw [List.drop_eq_nil_of_le (by rw [List.length_reverse]; omega)]
        cases rr <;> exact p2
      | succ r ih =>
        intro p g z1 rr v ep hg T fz ev
        obtain ⟨g, rfl⟩ : ∃ q, g = q + 1 := ⟨g - 1, by omega⟩
        have un := hu z1 fz
        have hb : r < (fdsOf U a).length := by omega
        have pl := tys _ (getD_mem hb)
        obtain ⟨z2, p1, p2, p3⟩ := T.only (F := F) (t := (fdsOf U a).getD r []) (x := tL ((fdsOf U a).getD r [])) (fun _ _ => ⟨pl.1.1, rfl⟩)
        obtain ⟨z3, s1, s2, s3⟩ := ih (p + 1) g z2 _ (nI r + (-1)) (by omega) (by omega) p2 (fz.trans p3) (by rw [Int32.sub_eq_add_neg])
        conv => enter [1, z', 1, 1]; unfold fn_X3_pack_L18
        rw [ev, dwn', if_neg (show ¬ nI r < 0 from (oI0 r (by omega)).2), T.lk, lnk_s, un.1, grd_true, (un.2.2.1 a ha).2 _ hb, cal_s, p1, cal_s]
        refine ⟨z3, s1, ?_, p3.trans s3⟩
        have hr : p < (fdsOf U a).reverse.length := by rw [List.length_reverse]; omega
        have eg : (fdsOf U a).reverse.getD p [] = (fdsOf U a).getD r [] := by
          rw [List.getD_eq_getElem?_getD, List.getD_eq_getElem?_getD, List.getElem?_reverse (by omega), show (fdsOf U a).length - 1 - p = r by omega]
        rw [drop_get hr, eg]
        rw [px_assoc rr] at s2
        exact s2
    obtain ⟨z3, s1, s2, s3⟩ := lp (fdsOf U a).length 0 F z (.ok L) _ (by omega) (by omega) h0 FrQc.rfl' rfl
    rw [List.drop_zero] at s2
    exact ⟨z3, s1, s2, s3⟩
  · subst e
    rw [if_pos (show bI (22 == 21) = 0 from rfl), if_neg (by decide), stC_t (by omega), cal_s]
    obtain ⟨z1, q1, q2, q3⟩ := h0.only (F := F) (t := [6, a]) (x := tL [6, a]) (fun _ _ => ⟨ts.1, rfl⟩)
    rw [q1, cal_s]
    have lp : ∀ r p g z1 rr, p + r = (fdsOf U a).length → r < g → CR sh n z1 kp f ls U.1.2.2 rr → FrQc z z1 → ∃ z', fn_X3_pack_L63 F sh n (nI (fdsOf U a).length) 62 (nI a) g z1 (nI p) = some (z', ()) ∧ CR sh n z' kp f ls U.1.2.2 (rr >>= aGives (((fdsOf U a).drop p).map (fun t => (t, 0, false)))) ∧ FrQc z1 z' := by
      intro r
      induction r with
      | zero =>
        intro p g z1 rr ep hg T fz
        obtain ⟨g, rfl⟩ : ∃ q, g = q + 1 := ⟨g - 1, by omega⟩
        conv => enter [1, z', 1, 1]; unfold fn_X3_pack_L63
        rw [if_pos ((nI_leI (by omega) (by omega)).mpr (by omega))]
        refine ⟨z1, rfl, ?_, FrQc.rfl'⟩
        rw [List.drop_eq_nil_of_le (by omega)]
        cases rr <;> exact T
      | succ r ih =>
        intro p g z1 rr ep hg T fz
        obtain ⟨g, rfl⟩ : ∃ q, g = q + 1 := ⟨g - 1, by omega⟩
        have un := hu z1 fz
        have hb : p < (fdsOf U a).length := by omega
        have pl := tys _ (getD_mem hb)
        obtain ⟨z2, p1, p2, p3⟩ := T.put (F := F) (t := (fdsOf U a).getD p []) (x := tL ((fdsOf U a).getD p [])) (fun _ _ => ⟨pl.1, rfl⟩)
        obtain ⟨z3, s1, s2, s3⟩ := ih (p + 1) g z2 _ (by omega) (by omega) p2 (fz.trans p3)
        conv => enter [1, z', 1, 1]; unfold fn_X3_pack_L63
        rw [if_neg (fun q => by have := (nI_leI (by omega) (by omega)).mp q; omega), T.lk, lnk_s, un.1, grd_true, (un.2.2.1 a ha).2 p hb, cal_s, p1, cal_s, nI_1]
        refine ⟨z3, s1, ?_, p3.trans s3⟩
        rw [drop_get hb, List.map_cons]
        rw [px_assoc rr] at s2
        exact s2
    obtain ⟨z3, s1, s2, s3⟩ := lp (fdsOf U a).length 0 F z1 _ (by omega) (by omega) q2 q3
    rw [List.drop_zero] at s2
    exact ⟨z3, s1, s2, q3.trans s3⟩
theorem CK.steer (hF : 300 ≤ F) (h : CK sh n z kp f ls U.1.2.2 L) (hu : ∀ z', FrQc z z' → CnL F sh n z' kp U) (hm : MdO U) {o : Nat} (ho : o = 0 ∨ o = 2 ∨ o = 3 ∨ o = 4 ∨ o = 45) (a b : Nat) : ∃ z', fn_X3_steer F sh n z 62 (nI o) = some (z', ()) ∧ CR sh n z' kp f ls U.1.2.2 (aOp U f o a b L) ∧ FrQc z z' := by
  have E : ∀ (m : Nat) (x : Int32), x = nI m → m < 100 → (nI o = x ↔ o = m) := fun m x e hm => nIe m e (by omega) (by omega)
  have h0 : CR sh n z kp f ls U.1.2.2 (.ok L) := h
  unfold fn_X3_steer aOp
  by_cases c0 : o = 0
  · rw [if_pos ((E 0 0 rfl (by omega)).mpr c0), h.cb.o3, grd_true]
    show ∃ z', _ ∧ CR sh n z' kp f ls U.1.2.2 (if o = 0 then _ else _) ∧ _
    rw [if_pos c0]
    obtain ⟨z1, x, q1, q2, q3⟩ := h.take (F := F)
    rw [q1, cal_s]
    rcases q3 with ⟨e1, e2, e3⟩ | ⟨q, e1, e2, e3, e4, e5, e6⟩
    · have k1 : CR sh n z1 kp f ls U.1.2.2 (.error 1) := ⟨by omega, e3⟩
      obtain ⟨b1, eb⟩ := k1.has_x (F := F) hF (hu z1 q2) (AbO.z0 _) 2
      rw [e1, e2, eb, cal_s, e3.fail_e (by omega), cal_s]
      refine ⟨z1, ?_, k1, q2⟩
      by_cases c : b1 = 0
      · rw [if_pos c]
      · rw [if_neg c]
    · have k1 : CR sh n z1 kp f ls U.1.2.2 (.ok q.2) := e3
      have hs := (k1.has_c (U := U) hF (hu z1 q2) hm e5).2.1
      obtain ⟨z2, s1, s2, s3, _⟩ := k1.chk (F := F) (v := 4) (iv := 4) rfl (by omega) (by omega) (g := fun _ => hasD U q.1.1) (X := fn_X3_has F sh n z1 62 x 2) (fun M _ => by rw [e2]; exact hs) (fun w e => by cases e) (k := fun z => some (z, ()))
      rw [e1, s1]
      exact ⟨z2, rfl, s2, q2.trans s3⟩
  rw [if_neg (fun q => c0 ((E 0 0 rfl (by omega)).mp q))]
  show ∃ z', _ ∧ CR sh n z' kp f ls U.1.2.2 (if o = 0 then _ else if o = 1 then _ else if o < 5 then _ else if o < 11 then _ else if o < 16 then _ else if o < 21 then _ else if o < 23 then _ else if o = 23 then _ else if o = 35 then _ else if o < 45 then _ else if o = 45 then _ else _) ∧ _
  rw [if_neg c0, if_neg (show ¬ o = 1 by omega)]
  by_cases c45 : o = 45
  · rw [if_pos ((E 45 45 rfl (by omega)).mpr c45), h.cb.o3, grd_true, if_neg (show ¬ o < 5 by omega), if_neg (show ¬ o < 11 by omega), if_neg (show ¬ o < 16 by omega), if_neg (show ¬ o < 21 by omega), if_neg (show ¬ o < 23 by omega), if_neg (show ¬ o = 23 by omega), if_neg (show ¬ o = 35 by omega), if_neg (show ¬ o < 45 by omega), if_pos c45]
    obtain ⟨z1, q1, q2, q3⟩ := h0.only (F := F) (t := [3]) (x := 3) (fun _ _ => ⟨TBk (by omega) (by omega), by rw [tLk]; rfl⟩)
    rw [q1, cal_s]
    exact ⟨z1, rfl, q2, q3⟩
  rw [if_neg (fun q => c45 ((E 45 45 rfl (by omega)).mp q)), if_pos (show o < 5 by omega)]
  have b50 : ∀ z1 (r : Px Lks), CR sh n z1 kp f ls U.1.2.2 r → ∃ z', fn_X3_steer_B50 F sh n 62 z1 = some (z', ()) ∧ CR sh n z' kp f ls U.1.2.2 (r >>= fun L => nd_ (L.1.1 == 0) 8 >>= fun _ => .ok L) ∧ FrQc z1 z' := fun z1 r k1 => by
    obtain ⟨z2, s1, s2, s3, _⟩ := k1.chkJ (F := F) (c := z1.1 62 8 ≤ 0) (v := 8) (iv := 8) rfl (by omega) (by omega) (g := fun M => M.1.1 == 0) (fun M e => by
      subst e
      have b := k1.2.2.2.2.1
      rw [b.1, beq_iff_eq, nIle (x := 0) 0 rfl (by omega) (by omega)]
      omega) (k := fun z => some (z, ()))
    unfold fn_X3_steer_B50
    rw [k1.o3, grd_true, s1]
    exact ⟨z2, rfl, s2, s3⟩
  by_cases c2 : o = 2
  · rw [if_pos ((E 2 2 rfl (by omega)).mpr c2), if_neg (show ¬ 2 < o by omega)]
    exact b50 z _ h0
  · rw [if_neg (fun q => c2 ((E 2 2 rfl (by omega)).mp q)), if_pos (show 2 < o by omega), h.cb.o3, grd_true]
    obtain ⟨z1, q1, q2, q3⟩ := h0.only (F := F) (t := [1]) (x := 1) (fun _ _ => ⟨TBk (by omega) (by omega), by rw [tLk]; rfl⟩)
    obtain ⟨z2, s1, s2, s3⟩ := b50 z1 _ q2
    rw [q1, cal_s]
    exact ⟨z2, s1, s2, q3.trans s3⟩
theorem CK.set (h : CK sh n z kp f ls U.1.2.2 L) {o : Nat} (ho : (5 ≤ o ∧ o ≤ 10) ∨ o = 35 ∨ o = 46) (a b : Nat) : ∃ z', fn_X3_set F sh n z 62 (nI o) = some (z', ()) ∧ CR sh n z' kp f ls U.1.2.2 (aOp U f o a b L) ∧ FrQc z z' := by
  have h0 : CR sh n z kp f ls U.1.2.2 (.ok L) := h
  have P : ∀ k, 1 ≤ k → k ≤ 5 → ∃ z', fn_X3_put F sh n z 62 (lN k) = some (z', ()) ∧ CR sh n z' kp f ls U.1.2.2 (lPush ([k], 0, false) L) ∧ FrQc z z' := fun k k1 k5 => h0.put (F := F) (t := [k]) (x := lN k) (fun _ _ => ⟨TBrk k1 k5, by rw [tLk]⟩)
  have G : ∀ (x : Int64) k, x = lN k → 1 ≤ k → k ≤ 5 → ∃ z', grd (okO sh n 62 3) (cal (fn_X3_put F sh n z 62 x) (fun z_2 _ => some (z_2, ()))) = some (z', ()) ∧ CR sh n z' kp f ls U.1.2.2 (lPush ([k], 0, false) L) ∧ FrQc z z' := fun x k ex k1 k5 => by
    obtain ⟨z1, q1, q2, q3⟩ := P k k1 k5
    rw [h.cb.o3, grd_true, ex, q1, cal_s]
    exact ⟨z1, rfl, q2, q3⟩
  have cs : o = 5 ∨ o = 6 ∨ o = 7 ∨ o = 8 ∨ o = 9 ∨ o = 10 ∨ o = 35 ∨ o = 46 := by omega
  rcases cs with e | e | e | e | e | e | e | e <;> subst e
  · exact G 2 2 rfl (by omega) (by omega)
  · exact G 3 3 rfl (by omega) (by omega)
  · exact G 4 4 rfl (by omega) (by omega)
  · exact G 1 1 rfl (by omega) (by omega)
  · exact G 1 1 rfl (by omega) (by omega)
  · exact G 5 5 rfl (by omega) (by omega)
  · exact ⟨z, rfl, h0, FrQc.rfl'⟩
  · exact G 5 5 rfl (by omega) (by omega)
end
