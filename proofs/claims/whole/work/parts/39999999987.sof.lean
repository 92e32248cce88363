/-! THE REFERENCE'S LOOKER: calls as a whole -/
def pxW (w : Nat) (M : Lks) : Px Lks := if w = 0 then .ok M else .error w
theorem pxW_q (w : Nat) (b : Bool) {v : Nat} (hv : v ≠ 0) (M : Lks) : pxW (wq w b v) M = pxW w M >>= fun M => nd_ b v >>= fun _ => .ok M := by
  unfold pxW wq
  by_cases c : w = 0
  · rw [if_pos c, if_pos c, ok_b]
    cases b with
    | true => rfl
    | false => rw [if_neg (show ¬ (if false = true then 0 else v) = 0 by simpa using hv)]; rfl
  · rw [if_neg c, if_neg c]; rfl
theorem any_or {α : Type} (xs : List α) (p q : α → Bool) : xs.any (fun b => p b || q b) = (xs.any p || xs.any q) := by
  induction xs with
  | nil => rfl
  | cons x xs ih =>
    rw [List.any_cons, List.any_cons, List.any_cons, ih]
    cases p x <;> cases q x <;> simp
theorem pts48 (O : Int64) (g : Nat → Bool) : ((List.range 15).any (fun b => ob O (48 + b) || g (48 + b)) || ob O 63) = ((List.range 16).any (fun b => ob O (48 + b)) || (List.range' 48 15).any g) := by
  rw [any_or, show List.range 16 = List.range 15 ++ [15] from rfl, List.any_append, List.range'_eq_map_range, List.any_map]
  show _ = ((List.range 15).any (fun b => ob O (48 + b)) || (ob O 63 || false) || (List.range 15).any (fun b => g (48 + b)))
  cases (List.range 15).any (fun b => ob O (48 + b)) <;> cases (List.range 15).any (fun b => g (48 + b)) <;> cases ob O 63 <;> rfl
section
variable {F n : Nat} {sh : Nat → Nat × Nat} {z z' : St} {ku f w ns : Nat} {ls : List Ty} {L M : Lks} {U : Md}
theorem RK.rr (h : RK sh n z ku f ls ns w L) : RR sh n z ku f ls ns (pxW w L) := by
  unfold pxW
  by_cases c : w = 0
  · rw [if_pos c]; subst c; exact h
  · rw [if_neg c]; exact ⟨by omega, L, h⟩
theorem c331 (hF : 300 ≤ F) (hu : ∀ z', FrLk z z' → UnL F sh n z' ku U) (hm : MdO U) {a : Nat} (ha : a < faOf U) (x y : Int64) : ∀ r p g z1 rr, p + r = (gvsOf U a).length → r < g → RR sh n z1 ku f ls U.1.2.2 rr → FrLk z z1 → ∃ z', fn_X13_call_L331 F sh n 355 (nI a) x y g z1 (nI p) = some (z', ()) ∧ RR sh n z' ku f ls U.1.2.2 (rr >>= aGives (((gvsOf U a).drop p).map (fun t => (t, rO t (if hdT t = 9 then y else x), rI t true)))) ∧ FrLk z1 z' := by
  obtain ⟨f8, t8, g8, tt, tg⟩ := hm.2.2.2.2 a ha
  intro r
  induction r with
  | zero =>
    intro p g z1 rr ep hg T fz
    obtain ⟨g, rfl⟩ : ∃ q, g = q + 1 := ⟨g - 1, by omega⟩
    have un := hu z1 fz
    obtain ⟨⟨m0, m1, mf⟩, mt, mg⟩ := un.2.1 a ha
    conv => enter [1, z', 1, 1]; unfold fn_X13_call_L331
    rw [T.un, lnk_s, un.1, grd_true, m1, cal_s, if_pos ((nI_leI (by omega) (by omega)).mpr (by omega))]
    refine ⟨z1, rfl, ?_, FrLk.rfl'⟩
    rw [List.drop_eq_nil_of_le (by omega)]
    cases rr <;> exact T
  | succ r ih =>
    intro p g z1 rr ep hg T fz
    obtain ⟨g, rfl⟩ : ∃ q, g = q + 1 := ⟨g - 1, by omega⟩
    have un := hu z1 fz
    obtain ⟨⟨m0, m1, mf⟩, mt, mg⟩ := un.2.1 a ha
    have hp : p < (gvsOf U a).length := by omega
    have tp := tg _ (getD_mem hp)
    have nx : ∀ o, o = (if hdT ((gvsOf U a).getD p []) = 9 then y else x) → ∃ z', fn_X13_call_B376 F sh n 355 (tL ((gvsOf U a).getD p [])) (nI p) (fun z9 q10 => fn_X13_call_L331 F sh n 355 (nI a) x y g z9 q10) z1 o = some (z', ()) ∧ RR sh n z' ku f ls U.1.2.2 (rr >>= aGives (((gvsOf U a).drop p).map (fun t => (t, rO t (if hdT t = 9 then y else x), rI t true)))) ∧ FrLk z1 z' := fun o eo => by
      obtain ⟨z2, p1, p2, p3⟩ := T.pushP (F := F) hF tp.1 o true
      have p1' : fn_X13_push F sh n z1 355 (tL ((gvsOf U a).getD p [])) o 1 = some (z2, ()) := p1
      obtain ⟨z3, s1, s2, s3⟩ := ih (p + 1) g z2 _ (by omega) (by omega) p2 (fz.trans p3)
      unfold fn_X13_call_B376
      rw [p1', cal_s, nI_1]
      refine ⟨z3, s1, ?_, p3.trans s3⟩
      rw [drop_get hp, List.map_cons, ← eo]
      rw [px_assoc rr] at s2
      exact s2
    conv => enter [1, z', 1, 1]; unfold fn_X13_call_L331
    rw [T.un, lnk_s, un.1, grd_true, m1, cal_s, if_neg (fun q => by have := (nI_leI (by omega) (by omega)).mp q; omega), T.un, lnk_s, un.1, grd_true, mg p hp, cal_s, writesR_t hF tp.1.1, cal_s]
    by_cases c : hdT ((gvsOf U a).getD p []) = 9
    · rw [show (hdT ((gvsOf U a).getD p []) == 9) = true from beq_iff_eq.mpr c, if_neg (show ¬ bI true = 0 from one0)]
      exact nx y (by rw [if_pos c])
    · rw [show (hdT ((gvsOf U a).getD p []) == 9) = false from beq_eq_false_iff_ne.mpr c, if_pos (show bI false = 0 from rfl)]
      exact nx x (by rw [if_neg c])
theorem c272 (hF : 300 ≤ F) {a : Nat} (h : RK sh n z ku f ls ns w M) (res : Bool) (x y : Int64) : ∀ r k g acc, k + r = 63 → r < g → fn_X13_call_L272 F sh n (bI res) 355 (nI a) x y g z (bI acc) (nI k) = fn_X13_call_B323 F sh n 355 (nI a) x y z (bI (!res || !(acc || (List.range' k r).any (fun b => lPt ls M b false)))) := by
  intro r
  induction r with
  | zero =>
    intro k g acc ek hg
    obtain ⟨g, rfl⟩ : ∃ q, g = q + 1 := ⟨g - 1, by omega⟩
    have ek : k = 63 := by omega
    subst ek
    conv => lhs; unfold fn_X13_call_L272
    rw [if_pos (show (63 : Int32) ≤ nI 63 by decide), List.range'_zero, List.any_nil, Bool.or_false]
    cases res with
    | false => rw [if_pos (show bI false = 0 from rfl)]; rfl
    | true =>
      rw [if_neg (show ¬ bI true = 0 from one0)]
      cases acc with
      | false => rw [if_pos (show bI false = 0 from rfl)]; rfl
      | true => rw [if_neg (show ¬ bI true = 0 from one0)]; rfl
  | succ r ih =>
    intro k g acc ek hg
    obtain ⟨g, rfl⟩ : ∃ q, g = q + 1 := ⟨g - 1, by omega⟩
    conv => lhs; unfold fn_X13_call_L272
    rw [if_neg (fun q => by have := (nI_leI (a := 63) (b := k) (by omega) (by omega)).mp q; omega), rng_s]
    cases acc with
    | true =>
      rw [if_neg (show ¬ bI true = 0 from one0)]
      unfold fn_X13_call_B294 fn_X13_call_B299
      rw [nI_1]
      have := ih (k + 1) g true (by omega) (by omega)
      rw [Bool.true_or] at this ⊢
      exact this
    | false =>
      have e := h.pt (F := F) hF (b := k) (by omega) false
      have e' : fn_X13_isPointed F sh n z 355 (nI k) 0 = some (z, bI (lPt ls M k false)) := e
      rw [if_pos (show bI false = 0 from rfl), e', cal_s, Bool.false_or]
      cases c : lPt ls M k false with
      | false =>
        rw [if_pos (show bI false = 0 from rfl)]
        unfold fn_X13_call_B299
        rw [nI_1]
        have := ih (k + 1) g false (by omega) (by omega)
        exact this
      | true =>
        rw [if_neg (show ¬ bI true = 0 from one0)]
        unfold fn_X13_call_B294 fn_X13_call_B299
        rw [nI_1]
        have := ih (k + 1) g true (by omega) (by omega)
        exact this
theorem c22 (hu : ∀ z', FrLk z z' → UnL F sh n z' ku U) (hm : MdO U) {a : Nat} (ha : a < faOf U) (nn V : Int32) : ∀ r g z1 rr, r ≤ (tksOf U a).length → r < g → RR sh n z1 ku f ls U.1.2.2 rr → FrLk z z1 → ∃ z' g', fn_X13_call_L22 F sh n 355 (nI a) nn V g z1 (nI r - 1) = fn_X13_call_L22 F sh n 355 (nI a) nn V (g' + 1) z' (nI 0 - 1) ∧ RR sh n z' ku f ls U.1.2.2 (rr >>= aTakes ((tksOf U a).reverse.drop ((tksOf U a).length - r))) ∧ FrLk z1 z' ∧ Fr5 z1 z' := by
  obtain ⟨f8, t8, g8, tt, tg⟩ := hm.2.2.2.2 a ha
  intro r
  induction r with
  | zero =>
    intro g z1 rr ep hg T fz
    obtain ⟨g, rfl⟩ : ∃ q, g = q + 1 := ⟨g - 1, by omega⟩
    refine ⟨z1, g, rfl, ?_, FrLk.rfl', Fr5.rfl'⟩
    rw [List.drop_eq_nil_of_le (by rw [List.length_reverse]; omega)]
    cases rr <;> exact T
  | succ r ih =>
    intro g z1 rr ep hg T fz
    obtain ⟨g, rfl⟩ : ∃ q, g = q + 1 := ⟨g - 1, by omega⟩
    have un := hu z1 fz
    obtain ⟨⟨m0, m1, mf⟩, mt, mg⟩ := un.2.1 a ha
    have hr : r < (tksOf U a).length := by omega
    have tp := tt _ (getD_mem hr)
    obtain ⟨z2, p1, p2, p3⟩ := T.takeT (F := F) tp.1.1
    have p5 := T.takeT5 p1
    obtain ⟨z3, g', s1, s2, s3, s4⟩ := ih g z2 _ (by omega) (by omega) p2 (fz.trans p3)
    have e1 : nI (r + 1) - 1 = nI r := by rw [← nI_1, Int32.add_sub_cancel]
    refine ⟨z3, g', ?_, ?_, p3.trans s3, p5.trans s4⟩
    · rw [← s1]
      conv => lhs; unfold fn_X13_call_L22
      rw [e1, if_neg (show ¬ nI r < 0 from (oI0 r (by omega)).2), T.un, lnk_s, un.1, grd_true, mt r hr, cal_s, p1, cal_s, Int32.sub_eq_add_neg]
    · have hd : (tksOf U a).length - (r + 1) < (tksOf U a).reverse.length := by rw [List.length_reverse]; omega
      have eg : (tksOf U a).reverse.getD ((tksOf U a).length - (r + 1)) [] = (tksOf U a).getD r [] := by
        rw [List.getD_eq_getElem?_getD, List.getD_eq_getElem?_getD, List.getElem?_reverse (by omega)]
        rw [show (tksOf U a).length - 1 - ((tksOf U a).length - (r + 1)) = r by omega]
      rw [drop_get hd, eg, show (tksOf U a).length - (r + 1) + 1 = (tksOf U a).length - r by omega]
      rw [px_assoc rr] at s2
      exact s2
theorem RK.call (hF : 300 ≤ F) (h : RK sh n z ku f ls U.1.2.2 0 L) (hu : ∀ z', FrLk z z' → UnL F sh n z' ku U) (hm : MdO U) (hf : f < faOf U) {a : Nat} (ha : a < faOf U) : OpR sh n z ku f ls U.1.2.2 (fn_X13_call F sh n z 355 (nI a)) (aCall U ls f a L) := by
  have un := hu z FrLk.rfl'
  obtain ⟨⟨m0, m1, mf⟩, mt, mg⟩ := un.2.1 a ha
  obtain ⟨f8, t8, g8, tt, tg⟩ := hm.2.2.2.2 a ha
  have f8' := (hm.2.2.2.2 f hf).1
  have h0 : RR sh n z ku f ls U.1.2.2 (.ok L) := h
  unfold fn_X13_call aCall
  rw [h.o13, grd_true, h.2.1.1, lnk_s, un.1, grd_true, m0, cal_s, lt_t, lt_t, h.2.2.1.1]
  obtain ⟨z1, g, s1, s2, s3, s4⟩ := c22 (F := F) hu hm ha (nI (tksOf U a).length) (nI L.1.1 - nI (tksOf U a).length) (tksOf U a).length F z _ (by omega) (by omega) h0 FrLk.rfl'
  rw [Nat.sub_self, List.drop_zero, ok_b] at s2
  rw [s1]
  unfold fn_X13_call_L22
  rw [if_pos (show nI 0 - 1 < 0 by decide)]
  cases e : aTakes (tksOf U a).reverse L with
  | error w =>
    rw [e] at s2
    obtain ⟨w0, M, k⟩ := s2
    rw [if_neg (k.ee w0)]
    exact ⟨z1, rfl, ⟨w0, M, k⟩, s3⟩
  | ok M =>
    rw [e] at s2
    have k : RK sh n z1 ku f ls U.1.2.2 0 M := s2
    obtain ⟨i1, i2⟩ := aTakes_ok _ _ _ e
    rw [List.length_reverse] at i1 i2
    have b64 := h.2.2.1.2.2.1 rfl
    have eV : nI L.1.1 - nI (tksOf U a).length = nI M.1.1 := by rw [i2]; exact pk_sub i1
    have ar : ArgR z1 M.1.1 (tksOf U a).length (fun k => L.1.2 (M.1.1 + k)) U.1.2.2 := by
      have eM : M.1.1 = L.1.1 - (tksOf U a).length := by rw [i2]
      refine ⟨by omega, fun k hk => ?_⟩
      obtain ⟨a1, a2, a3, a4⟩ := h.2.2.1.2.2.2 (M.1.1 + k) (by omega)
      rw [(s4 362 (by omega)).2, (s4 363 (by omega)).2]
      exact ⟨a1, a2, a4⟩
    have un1 := hu z1 s3
    rw [if_pos k.e0, k.2.1.1, lnk_s, un1.1, grd_true, (un1.2.1 a ha).1.2.2, cal_s, eV]
    have fa : ∀ (X : St → Int32 → Option (St × Unit)), (if nI (fnOf U a).1 &&& 4 = 0 then X z1 0 else X z1 1) = X z1 (bI (resOf U a)) := fun X => by
      unfold resOf
      by_cases c : (fnOf U a).1 / 4 % 2 = 0
      · rw [if_pos ((fl4 _ f8).mpr c), c]; rfl
      · rw [if_neg (fun q => c ((fl4 _ f8).mp q)), show (fnOf U a).1 / 4 % 2 = 1 by omega]; rfl
    rw [fa (fun z9 q => fn_X13_call_B74 F sh n 355 (nI (tksOf U a).length) (nI a) (nI M.1.1) z9 q)]
    have e74 : fn_X13_call_B74 F sh n 355 (nI (tksOf U a).length) (nI a) (nI M.1.1) z1 (bI (resOf U a)) = fn_X13_call_B103 F sh n 355 (nI (tksOf U a).length) (bI (resOf U a)) (nI a) (nI M.1.1) z1 (bI (!resOf U a || resOf U f)) := by
      unfold fn_X13_call_B74
      cases c : resOf U a with
      | false => rw [if_pos (show bI false = 0 from rfl)]; rfl
      | true =>
        rw [if_neg (show ¬ bI true = 0 from one0), k.2.1.1, lnk_s, un1.1, grd_true, k.2.1.2.1, (un1.2.1 f hf).1.2.2, cal_s]
        unfold resOf
        by_cases d : (fnOf U f).1 / 4 % 2 = 0
        · rw [if_pos ((fl4 _ f8').mpr d), d]; rfl
        · rw [if_neg (fun q => d ((fl4 _ f8').mp q)), show (fnOf U f).1 / 4 % 2 = 1 by omega]; rfl
    show OpR sh n z ku f ls U.1.2.2 (fn_X13_call_B74 F sh n 355 (nI (tksOf U a).length) (nI a) (nI M.1.1) z1 (bI (resOf U a))) _
    rw [e74]
    unfold fn_X13_call_B103
    obtain ⟨z2, p1, p2, p3, p4⟩ := k.ndw (F := F) (!resOf U a || resOf U f) (v := 15) (by omega) (by omega)
    have p1' : fn_X13_need F sh n z1 355 (bI (!resOf U a || resOf U f)) 15 = some (z2, ()) := p1
    rw [p1', cal_s]
    obtain ⟨z3, q1, q2, q3⟩ := c117 (F := F) (n := n) (sh := sh) (ku := ku) (f := f) (ls := ls) (ns := U.1.2.2) (M := M) hF (B := M.1.1) (nn := (tksOf U a).length) (a := a) (A := fun k => L.1.2 (M.1.1 + k)) (p19 := bI (resOf U a)) (tksOf U a).length 0 F z2 _ (by omega) (by omega) p2 (ar.f5 p4)
    have q1' : fn_X13_call_L117 F sh n (nI (tksOf U a).length) (bI (resOf U a)) 355 (nI a) (nI M.1.1) F z2 0 0 0 = _ := q1
    rw [q1']
    unfold fn_X13_call_B266
    have e272 := c272 (F := F) (a := a) hF q2 (resOf U a) (orO ((List.range (tksOf U a).length).map (fun k => L.1.2 (M.1.1 + k)))) (orO (((List.range (tksOf U a).length).map (fun k => L.1.2 (M.1.1 + k))).filter (fun s => hdT s.1 == 9))) 15 48 F ((List.range 16).any (fun b => ob (orO ((List.range (tksOf U a).length).map (fun k => L.1.2 (M.1.1 + k)))) (48 + b))) (by omega) (by omega)
    have e272' : fn_X13_call_L272 F sh n (bI (resOf U a)) 355 (nI a) (orO ((List.range (tksOf U a).length).map (fun k => L.1.2 (M.1.1 + k)))) (orO (((List.range (tksOf U a).length).map (fun k => L.1.2 (M.1.1 + k))).filter (fun s => hdT s.1 == 9))) F z3 (bI ((List.range 16).any (fun b => ob (orO ((List.range (tksOf U a).length).map (fun k => L.1.2 (M.1.1 + k)))) (48 + b)))) 48 = _ := e272
    rw [e272', ← pts48 _ (fun b => lPt ls M b false)]
    unfold fn_X13_call_B323
    generalize ep : (!resOf U a || !((List.range 15).any (fun b => ob (orO ((List.range (tksOf U a).length).map (fun k => L.1.2 (M.1.1 + k)))) (48 + b) || lPt ls M (48 + b) false) || ob (orO ((List.range (tksOf U a).length).map (fun k => L.1.2 (M.1.1 + k)))) 63)) = bp
    obtain ⟨z4, u1, u2, u3, u4⟩ := q2.ndw (F := F) bp (v := 6) (by omega) (by omega)
    have u1' : fn_X13_need F sh n z3 355 (bI bp) 6 = some (z4, ()) := u1
    rw [u1', cal_s]
    have f4 := ((s3.trans p3).trans q3).trans u3
    obtain ⟨z5, v1, v2, v3⟩ := c331 (F := F) hF hu hm ha (orO ((List.range (tksOf U a).length).map (fun k => L.1.2 (M.1.1 + k)))) (orO (((List.range (tksOf U a).length).map (fun k => L.1.2 (M.1.1 + k))).filter (fun s => hdT s.1 == 9))) (gvsOf U a).length 0 F z4 _ (by omega) (by omega) u2.rr f4
    have v1' : fn_X13_call_L331 F sh n 355 (nI a) (orO ((List.range (tksOf U a).length).map (fun k => L.1.2 (M.1.1 + k)))) (orO (((List.range (tksOf U a).length).map (fun k => L.1.2 (M.1.1 + k))).filter (fun s => hdT s.1 == 9))) F z4 0 = _ := v1
    refine ⟨z5, v1', ?_, f4.trans v3⟩
    rw [List.drop_zero, pxW_q _ _ (by omega), pxW_q _ _ (by omega), pxW_q _ _ (by omega), ← List.range_eq_range'] at v2
    rw [ok_b]
    show RR sh n z5 ku f ls U.1.2.2 (nd_ (!resOf U a || resOf U f) 15 >>= fun _ => nd_ ((List.range (tksOf U a).length).all (argG ls M (tksOf U a).length (fun k => L.1.2 (M.1.1 + k)))) 6 >>= fun _ => nd_ (!resOf U a || !((List.range 15).any (fun b => ob (orO ((List.range (tksOf U a).length).map (fun k => L.1.2 (M.1.1 + k)))) (48 + b) || lPt ls M (48 + b) false) || ob (orO ((List.range (tksOf U a).length).map (fun k => L.1.2 (M.1.1 + k)))) 63)) 6 >>= fun _ => aGives ((gvsOf U a).map (fun t => (t, rO t (if hdT t = 9 then orO (((List.range (tksOf U a).length).map (fun k => L.1.2 (M.1.1 + k))).filter (fun s => hdT s.1 == 9)) else orO ((List.range (tksOf U a).length).map (fun k => L.1.2 (M.1.1 + k)))), rI t true))) M)
    rw [ep]
    have e0 : pxW 0 M = .ok M := rfl
    rw [e0, ok_b] at v2
    cases b1 : (!resOf U a || resOf U f) with
    | false => rw [b1] at v2; exact v2
    | true =>
      rw [b1] at v2
      cases b2 : ((List.range (tksOf U a).length).all (argG ls M (tksOf U a).length (fun k => L.1.2 (M.1.1 + k)))) with
      | false => rw [b2] at v2; exact v2
      | true =>
        rw [b2] at v2
        cases bp <;> exact v2
end
