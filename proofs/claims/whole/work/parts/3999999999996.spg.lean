/-! THE CLASS'S LOOKER: locals are used -/
/-- what the class's program answers of a module -/
def CnL (F : Nat) (sh : Nat → Nat × Nat) (n : Nat) (z : St) (kp : Nat) (U : Md) : Prop := okO sh n kp 5 = true ∧ (∀ g, g < faOf U → (fn_X5_takes F sh n z kp (nI g) = some (z, nI (tksOf U g).length) ∧ fn_X5_gives F sh n z kp (nI g) = some (z, nI (gvsOf U g).length) ∧ fn_X5_flags F sh n z kp (nI g) = some (z, nI (fnOf U g).1)) ∧ (∀ k, k < (tksOf U g).length → fn_X5_takenType F sh n z kp (nI g) (nI k) = some (z, tL ((tksOf U g).getD k []))) ∧ ∀ k, k < (gvsOf U g).length → fn_X5_givenType F sh n z kp (nI g) (nI k) = some (z, tL ((gvsOf U g).getD k []))) ∧ (∀ a, a < U.1.2.1 → fn_X5_fieldCount F sh n z kp (nI a) = some (z, nI (fdsOf U a).length) ∧ ∀ b, b < (fdsOf U a).length → fn_X5_fieldType F sh n z kp (nI a) (nI b) = some (z, tL ((fdsOf U a).getD b []))) ∧ (∀ s, s < U.1.2.2 → fn_X5_structureColumn F sh n z kp (nI s) 0 = some (z, nI (U.2.1 s))) ∧ ∀ e, e < (elsOf U).length → fn_X5_elementType F sh n z kp (nI e) = some (z, tL ((elsOf U).getD e []))
/-- what is no reference has no origins -/
def LcO (ls : List Ty) (C : Lc) : Prop := ∀ k, k < ls.length → C.1 k = true → isR (ls.getD k []) = false → C.2.1 k = 0 ∧ C.2.2 k = false
section
variable {F n : Nat} {sh : Nat → Nat × Nat} {z z' : St} {kp f w ns : Nat} {ls : List Ty} {L : Lks} {U : Md}
theorem bit_n {k : Nat} (hk : k < 64) : (1 <<< ((nI k).toInt64 &&& 63) : Int64) = bitO k := bit_l hk
theorem CK.setL (h : CK sh n z kp f ls ns L) {k : Nat} (hk : k < ls.length) (o : Int64) (i : Bool) : fn_X3_setLocal F sh n z 62 (nI k) o (bI i) = some (sl (sl z 67 k o) 62 13 (if i = true then z.2.1 62 13 ||| bitO k else z.2.1 62 13 &&& (bitO k ^^^ (-1))), ()) := by
  have c0 := h.2.2.2.2.2.1.1
  have ok : okA sh n 67 102 (nI k) = true := by rw [lay_a h.1 67 102 40 (by omega) rfl]; exact okI_nI (by omega) (by omega)
  have cp : (nI k).toNatClampNeg = k := nI_clamp (by omega)
  unfold fn_X3_setLocal
  rw [h.cb.o3, grd_true, h.1.2.2 62 10 67 rfl, lnk_s, ok, grd_true, lt_t, cp, sl_ok (by omega), bit_n (by omega)]
  cases i with
  | true => rw [if_neg (show ¬ bI true = 0 from one0), if_pos rfl]; rfl
  | false => rw [if_pos (show bI false = 0 from rfl), if_neg (by simp)]; rfl
theorem CK.b122 (h : CK sh n z kp f ls ns L) (hn : LcO ls L.2) {a : Nat} (ha : a < ls.length) {o : Nat} (ho : o = 11 ∨ o = 12) (hth : L.2.1 a = true) : ∃ z', fn_X3_useLocal_B122 F sh n 62 (nI o) (nI a) (tL (ls.getD a [])) z = some (z', ()) ∧ CR sh n z' kp f ls ns (lPush (ls.getD a [], rO (ls.getD a []) (L.2.2.1 a), rI (ls.getD a []) (L.2.2.2 a)) L >>= fun L => if o = 12 then .ok (lSetL L a false 0 false) else .ok L) ∧ FrQc z z' := by
  have h' := h
  obtain ⟨a1, a2, a3, a4, ⟨b1, b2, b3⟩, ⟨c0, c1⟩, c2, c3⟩ := h
  have ok : okA sh n 67 102 (nI a) = true := by rw [lay_a a1 67 102 40 (by omega) rfl]; exact okI_nI (by omega) (by omega)
  have cp : (nI a).toNatClampNeg = a := nI_clamp (by omega)
  have eo : z.2.1 67 a = rO (ls.getD a []) (L.2.2.1 a) := by
    rw [c3 a (by omega), decide_eq_true ha, hth, Bool.and_self, if_pos rfl]
    unfold rO
    cases r : isR (ls.getD a []) with
    | true => rw [if_pos rfl]
    | false => rw [if_neg (by simp)]; exact (hn a ha hth r).1
  have ei : ob (z.2.1 62 13) a = rI (ls.getD a []) (L.2.2.2 a) := by
    rw [(c2 a).2, decide_eq_true ha, hth, Bool.true_and, Bool.true_and]
    unfold rI
    cases r : isR (ls.getD a []) with
    | true => rw [Bool.true_and]
    | false => rw [(hn a ha hth r).2]; rfl
  have t0 : isR (ls.getD a []) = false → rO (ls.getD a []) (L.2.2.1 a) = 0 ∧ rI (ls.getD a []) (L.2.2.2 a) = false := fun r => by
    unfold rO rI; rw [r]; exact ⟨rfl, rfl⟩
  have E : ∀ (m : Nat) (x : Int32), x = nI m → m < 100 → (nI o = x ↔ o = m) := fun m x e hm => nIe m e (by omega) (by omega)
  have b188 : ∀ v, v = rI (ls.getD a []) (L.2.2.2 a) → ∃ z', fn_X3_useLocal_B188 F sh n 62 (tL (ls.getD a [])) z 67 (nI a) (nI o) z (bI v) = some (z', ()) ∧ CR sh n z' kp f ls ns (lPush (ls.getD a [], rO (ls.getD a []) (L.2.2.1 a), rI (ls.getD a []) (L.2.2.2 a)) L >>= fun L => if o = 12 then .ok (lSetL L a false 0 false) else .ok L) ∧ FrQc z z' := fun v ev => by
    subst ev
    obtain ⟨z1, q1, q2, q3⟩ := h'.put (F := F) (c1 a ha).2 (rO (ls.getD a []) (L.2.2.1 a)) (rI (ls.getD a []) (L.2.2.2 a)) t0
    unfold fn_X3_useLocal_B188
    rw [cp, eo, q1, cal_s]
    by_cases c : o = 12
    · rw [if_pos ((E 12 12 rfl (by omega)).mpr c)]
      cases e : lPush (ls.getD a [], rO (ls.getD a []) (L.2.2.1 a), rI (ls.getD a []) (L.2.2.2 a)) L with
      | error w =>
        rw [e] at q2
        have c67 : okA sh n 67 102 (nI a) = true := ok
        unfold fn_X3_setLocal
        have l1 := q2.2.1
        rw [q2.2.o3, grd_true, l1.2.2 62 10 67 rfl, lnk_s, ok, grd_true, lt_t, if_pos rfl, lt_t, cal_s, lt_t, cp]
        have f3 : FrQc z1 (sl (sl (sl z1 67 a 0) 62 13 ((sl z1 67 a 0).2.1 62 13 &&& (1 <<< ((nI a).toInt64 &&& 63) ^^^ -1))) 62 12 ((sl (sl z1 67 a 0) 62 13 ((sl z1 67 a 0).2.1 62 13 &&& (1 <<< ((nI a).toInt64 &&& 63) ^^^ -1))).2.1 62 12 &&& (1 <<< ((nI a).toInt64 &&& 63) ^^^ -1))) := ((FrQc.sl (.inr (.inr (.inr rfl)))).trans (FrQc.sl (.inl ⟨rfl, by omega⟩))).trans (FrQc.sl (.inl ⟨rfl, by omega⟩))
        refine ⟨_, rfl, ?_, q3.trans f3⟩
        obtain ⟨w0, g1, g2, g3, g4, d, g5, g6, g7⟩ := q2
        exact ⟨w0, g1.of rfl, g2, g3, g4, d, g5, g6, g7⟩
      | ok M =>
        rw [e] at q2
        have k1 : CK sh n z1 kp f ls ns M := q2
        obtain ⟨s1, s2⟩ := k1.setC ha false 0 false (fun _ => ⟨rfl, rfl⟩)
        have g := k1.setL (F := F) ha 0 false
        have g' : fn_X3_setLocal F sh n z1 62 (nI a) 0 0 = _ := g
        rw [g', cal_s, lt_t, ok_b, if_pos c, bit_n (by omega)]
        refine ⟨_, rfl, ?_, q3.trans ?_⟩
        · rw [if_neg (by simp), if_neg (by simp)] at s1
          have e2 : (sl (sl z1 67 a 0) 62 13 (if false = true then z1.2.1 62 13 ||| bitO a else z1.2.1 62 13 &&& (bitO a ^^^ -1))).2.1 62 12 = z1.2.1 62 12 := by rw [sl_oj (by omega), sl_ok (by omega)]
          rw [e2, if_neg (by simp)]
          exact s1
        · rw [if_neg (by simp), if_neg (by simp)] at s2
          have e2 : (sl (sl z1 67 a 0) 62 13 (if false = true then z1.2.1 62 13 ||| bitO a else z1.2.1 62 13 &&& (bitO a ^^^ -1))).2.1 62 12 = z1.2.1 62 12 := by rw [sl_oj (by omega), sl_ok (by omega)]
          rw [e2, if_neg (by simp)]
          exact s2
    · rw [if_neg (fun q => c ((E 12 12 rfl (by omega)).mp q))]
      refine ⟨z1, rfl, ?_, q3⟩
      cases e : lPush (ls.getD a [], rO (ls.getD a []) (L.2.2.1 a), rI (ls.getD a []) (L.2.2.2 a)) L with
      | error w => rw [e] at q2; exact q2
      | ok M => rw [e] at q2; rw [ok_b, if_neg c]; exact q2
  unfold fn_X3_useLocal_B122
  rw [a4, if_pos (show nI 0 = 0 from rfl), if_neg (fun q => by have := (E 13 13 rfl (by omega)).mp q; omega), a1.2.2 62 10 67 rfl, lnk_s, ok, grd_true]
  cases e : rI (ls.getD a []) (L.2.2.2 a) with
  | false =>
    have b := b188 false e.symm
    rw [e] at ei b
    rw [if_pos ((ob_ush (by omega)).mpr ei)]
    exact b
  | true =>
    have b := b188 true e.symm
    rw [e] at ei b
    rw [if_neg (fun q => by have := (ob_ush (by omega)).mp q; rw [ei] at this; exact absurd this (by simp))]
    exact b
theorem CB.b122 (h : CB sh n z kp f w) (hw : 0 < w) (o a : Int32) (t : Int64) : fn_X3_useLocal_B122 F sh n 62 o a t z = some (z, ()) := by
  unfold fn_X3_useLocal_B122
  rw [h.2.2.2.1.1, if_neg (nI_ne0 hw (by have := h.2.2.2.1.2; omega))]
theorem CR.live_c (hF : 300 ≤ F) {r : Px Lks} (h : CR sh n z kp f ls ns r) {x : Int64} {wr : Bool} : (∀ M, r = .ok M → fn_X3_isLive F sh n z 62 x (bI wr) = some (z, bI (lvB ls M x wr))) ∧ ∀ w, r = .error w → ∃ b, fn_X3_isLive F sh n z 62 x (bI wr) = some (z, b) := ⟨fun M e => by subst e; exact CK.live hF h x wr, fun w e => by subst e; exact h.2.live_e hF x (bI wr)⟩
theorem CR.sole_c (hF : 300 ≤ F) {r : Px Lks} (h : CR sh n z kp f ls ns r) {x : Int64} : (∀ M, r = .ok M → fn_X3_isSole F sh n z 62 x = some (z, bI (lSole ls M x))) ∧ ∀ w, r = .error w → ∃ b, fn_X3_isSole F sh n z 62 x = some (z, b) := ⟨fun M e => by subst e; exact CK.sole hF h x, fun w e => by subst e; exact h.2.sole_e hF x⟩
theorem CR.there_c {r : Px Lks} (h : CR sh n z kp f ls ns r) {k : Nat} (hk : k < ls.length) : (∀ M, r = .ok M → fn_X3_isThere F sh n z 62 (nI k) = some (z, bI (M.2.1 k))) ∧ ∀ w, r = .error w → ∃ b, fn_X3_isThere F sh n z 62 (nI k) = some (z, b) := ⟨fun M e => by subst e; exact CK.there h hk, fun w e => by subst e; exact h.2.there_e (nI k)⟩
theorem CR.has_c (hF : 300 ≤ F) {r : Px Lks} (h : CR sh n z kp f ls ns r) (hu : CnL F sh n z kp U) (hm : MdO U) {t : Ty} (ht : TBr U.1.2.2 t) : fn_X3_has F sh n z 62 (tL t) 1 = some (z, bI (hasC U t)) ∧ fn_X3_has F sh n z 62 (tL t) 2 = some (z, bI (hasD U t)) ∧ fn_X3_has F sh n z 62 (tL t) 8 = some (z, bI (hasK U t)) := by
  cases r with
  | error w => exact CB.has hF h.2 hu.1 hu.2.2.2.1 hm ht
  | ok M => exact CB.has hF (CK.cb h) hu.1 hu.2.2.2.1 hm ht
theorem CR.has_x (hF : 300 ≤ F) {r : Px Lks} (h : CR sh n z kp f ls ns r) (hu : CnL F sh n z kp U) {x : Int64} (hx : AbO U.1.2.2 x) (a : Int32) : ∃ b, fn_X3_has F sh n z 62 x a = some (z, b) := by
  cases r with
  | error w => exact CB.has_e hF h.2 hx hu.1 hu.2.2.2.1 a
  | ok M => exact CB.has_e hF (CK.cb h) hx hu.1 hu.2.2.2.1 a
theorem bA {α β γ : Type} (x : Px α) (g : α → Px β) (k : β → Px γ) : (x >>= g) >>= k = x >>= fun a => g a >>= k := by cases x <;> rfl
/-- behind the first tests: is what it holds lent -/
theorem CR.b90 (hF : 300 ≤ F) {r : Px Lks} (h : CR sh n z kp f ls ns r) {a : Nat} (ha : a < ls.length) (h40 : ls.length ≤ 40) {o : Nat} (ho : o < 100) : ∃ z', fn_X3_useLocal_B90 F sh n (bI (!isR (ls.getD a []))) 62 (nI o) (nI a) (tL (ls.getD a [])) z = fn_X3_useLocal_B122 F sh n 62 (nI o) (nI a) (tL (ls.getD a [])) z' ∧ CR sh n z' kp f ls ns (r >>= fun L => nd_ (!(!isR (ls.getD a [])) || !lPt ls L a (o == 11)) 6 >>= fun _ => .ok L) ∧ FrQc z z' ∧ ∀ M, (r >>= fun L => nd_ (!(!isR (ls.getD a [])) || !lPt ls L a (o == 11)) 6 >>= fun _ => .ok L) = .ok M → z' = z := by
  unfold fn_X3_useLocal_B90
  cases er : isR (ls.getD a []) with
  | true =>
    rw [if_pos (show bI (!true) = 0 from rfl)]
    refine ⟨z, rfl, ?_, FrQc.rfl', fun _ _ => rfl⟩
    cases r with
    | error w => exact h
    | ok M => exact h
  | false =>
    rw [if_neg (show ¬ bI (!false) = 0 from one0)]
    have E : nI o = 11 ↔ o = 11 := nIe 11 rfl (by omega) (by omega)
    have key : ∀ wr, ∃ z', fn_X3_useLocal_B110 F sh n 62 (nI a) (nI o) (tL (ls.getD a [])) z (bI wr) = fn_X3_useLocal_B122 F sh n 62 (nI o) (nI a) (tL (ls.getD a [])) z' ∧ CR sh n z' kp f ls ns (r >>= fun L => nd_ (!(!false) || !lPt ls L a wr) 6 >>= fun _ => .ok L) ∧ FrQc z z' ∧ ∀ M, (r >>= fun L => nd_ (!(!false) || !lPt ls L a wr) 6 >>= fun _ => .ok L) = .ok M → z' = z := fun wr => by
      obtain ⟨l1, l2⟩ := h.live_c (F := F) hF (x := bitO a) (wr := wr)
      unfold fn_X3_useLocal_B110
      rw [bit_n (by omega)]
      have c := h.chkN (F := F) (v := 6) (iv := 6) rfl (by omega) (by omega) (g := fun M => lPt ls M a wr) (X := fn_X3_isLive F sh n z 62 (bitO a) (bI wr)) (fun M e => by rw [l1 M e, lvB_pt ls M (by omega)]) l2 (k := fun z => fn_X3_useLocal_B122 F sh n 62 (nI o) (nI a) (tL (ls.getD a [])) z)
      simpa only [Bool.not_false, Bool.not_true, Bool.false_or] using c
    by_cases c : o = 11
    · rw [if_pos (E.mpr c), show (o == 11) = true from by rw [c]; rfl]
      exact key true
    · rw [if_neg (fun q => c (E.mp q)), show (o == 11) = false from beq_eq_false_iff_ne.mpr c]
      exact key false
theorem CK.useLocal (hF : 300 ≤ F) (h : CK sh n z kp f ls U.1.2.2 L) (hn : LcO ls L.2) (hu : ∀ z', FrQc z z' → CnL F sh n z' kp U) (hm : MdO U) {a o : Nat} (ha : a < ls.length) (ho : o = 11 ∨ o = 12 ∨ o = 13) : ∃ z', fn_X3_useLocal F sh n z 62 (nI o) (nI a) = some (z', ()) ∧ CR sh n z' kp f ls U.1.2.2 (aLocal U ls o a L) ∧ FrQc z z' := by
  have h' := h
  obtain ⟨a1, a2, a3, a4, ⟨b1, b2, b3⟩, ⟨c0, c1⟩, c2, c3⟩ := h
  have ok : okA sh n 66 102 (nI a) = true := by rw [lay_a a1 66 102 40 (by omega) rfl]; exact okI_nI (by omega) (by omega)
  have cp : (nI a).toNatClampNeg = a := nI_clamp (by omega)
  obtain ⟨t1, t2⟩ := c1 a ha
  have E : ∀ (m : Nat) (x : Int32), x = nI m → m < 100 → (nI o = x ↔ o = m) := fun m x e hm => nIe m e (by omega) (by omega)
  have hb : fn_X3_useLocal F sh n z 62 (nI o) (nI a) = fn_X3_useLocal_B19 F sh n (nI o) 62 (tL (ls.getD a [])) (nI a) z (bI (!isR (ls.getD a []))) := by
    unfold fn_X3_useLocal
    rw [h'.cb.o3, grd_true, a1.2.2 62 9 66 rfl, lnk_s, ok, grd_true, cp, t1, lt_t, isRefC_t hF t2.1, cal_s]
    cases isR (ls.getD a []) with
    | true => rw [if_neg (show ¬ bI true = 0 from one0)]; rfl
    | false => rw [if_pos (show bI false = 0 from rfl)]; rfl
  rw [hb]
  unfold fn_X3_useLocal_B19 aLocal
  by_cases c13 : o = 13
  · rw [if_pos ((E 13 13 rfl (by omega)).mpr c13)]
    obtain ⟨z1, q1, q2, q3, q4⟩ := h'.only (F := F) t2.1
    obtain ⟨x1, x2⟩ := q2.there_c (F := F) ha
    have hs := fun (z9 : St) => q2.has_c (U := U) hF (hu z1 q3) hm t2
    obtain ⟨z2, s1, s2, s3, s4⟩ := q2.chk2 (F := F) (v := 4) (iv := 4) rfl (by omega) (by omega) (g1 := fun M => M.2.1 a) (g2 := fun _ => hasD U (ls.getD a [])) (X := fn_X3_isThere F sh n z1 62 (nI a)) (Y := fn_X3_has F sh n z1 62 (tL (ls.getD a [])) 2) (fun M e => ⟨x1 M e, (q2.has_c hF (hu z1 q3) hm t2).2.1⟩) (fun w e => ⟨x2 w e, _, (q2.has_c hF (hu z1 q3) hm t2).2.1⟩) (k := fun z => fn_X3_useLocal_B70 F sh n (nI o) 62 (tL (ls.getD a [])) (bI (!isR (ls.getD a []))) (nI a) z) (Yf := fun z => fn_X3_has F sh n z 62 (tL (ls.getD a [])) 2) rfl
    rw [q1, cal_s, s1]
    unfold fn_X3_useLocal_B70
    rw [if_neg (fun q => by have := (E 11 11 rfl (by omega)).mp q; omega)]
    obtain ⟨z3, p1, p2, p3, p4⟩ := s2.b90 (F := F) hF ha c0 (o := o) (by omega)
    rw [p1]
    have e11 : (o == 11) = false := beq_eq_false_iff_ne.mpr (by omega)
    rw [e11] at p2 p4
    have f3 := (q3.trans s3).trans p3
    cases el : lTake L with
    | error w =>
      have ev : lTakeT (ls.getD a []) L = .error w := by unfold lTakeT; rw [el]; rfl
      rw [ev] at p2
      rw [CB.b122 p2.2 p2.1]
      rw [if_pos c13]
      exact ⟨z3, rfl, p2, f3⟩
    | ok q =>
      have ev : lTakeT (ls.getD a []) L = nd_ (q.1.1 == ls.getD a []) 3 >>= fun _ => .ok q.2 := by unfold lTakeT; rw [el]; rfl
      have tk := q4 q el
      have e2 : q.2.2 = L.2 := by
        unfold lTake at el
        by_cases d : L.1.1 = 0
        · rw [if_pos d] at el; cases el
        · rw [if_neg d] at el; cases el; rfl
      rw [if_pos c13, ok_b]
      cases x1 : (q.1.1 == ls.getD a []) with
      | false =>
        rw [x1] at ev
        rw [ev] at p2
        have p2' : CR sh n z3 kp f ls U.1.2.2 (.error 3) := p2
        rw [CB.b122 p2'.2 p2'.1]
        exact ⟨z3, rfl, p2', f3⟩
      | true =>
        rw [x1] at ev
        have ev' : lTakeT (ls.getD a []) L = .ok q.2 := ev
        rw [ev'] at p2 p4 s2 s4
        rw [ok_b] at p2 p4 s2 s4
        rw [e2] at p2 p4 s2 s4
        rw [nd_t, ok_b]
        cases x2 : (!L.2.1 a || hasD U (ls.getD a [])) with
        | false =>
          rw [x2] at p2
          have p2' : CR sh n z3 kp f ls U.1.2.2 (.error 4) := p2
          rw [CB.b122 p2'.2 p2'.1]
          exact ⟨z3, rfl, p2', f3⟩
        | true =>
          rw [x2, nd_t, ok_b] at p2 p4 s4
          rw [ok_b] at p2 p4
          rw [nd_t, ok_b]
          cases x3 : (!(!isR (ls.getD a [])) || !lPt ls q.2 a false) with
          | false =>
            rw [x3] at p2
            have p2' : CR sh n z3 kp f ls U.1.2.2 (.error 6) := p2
            rw [CB.b122 p2'.2 p2'.1]
            exact ⟨z3, rfl, p2', f3⟩
          | true =>
            rw [x3, nd_t, ok_b] at p2 p4
            have k3 : CK sh n z3 kp f ls U.1.2.2 q.2 := p2
            have e31 : z3 = z1 := (p4 _ rfl).trans (s4 _ rfl)
            rw [nd_t, ok_b]
            obtain ⟨g1, g2, g3, g4, g5⟩ := h'.take (F := F)
            have er : rO (ls.getD a []) q.1.2.1 = q.1.2.1 ∧ rI (ls.getD a []) q.1.2.2 = q.1.2.2 := by
              rcases g5 with ⟨d1, _⟩ | ⟨q', d1, _, _, _, _, d6⟩
              · rw [el] at d1; cases d1
              · rw [el] at d1; cases d1
                have et : q.1.1 = ls.getD a [] := beq_iff_eq.mp x1
                rw [et] at d6
                unfold rO rI
                cases r : isR (ls.getD a []) with
                | true => exact ⟨rfl, rfl⟩
                | false => obtain ⟨d7, d8⟩ := d6 r; rw [d7, d8]; exact ⟨rfl, rfl⟩
            rw [er.1, er.2]
            obtain ⟨w1, w2⟩ := k3.setC ha true q.1.2.1 q.1.2.2 (fun q => by cases q)
            have g := k3.setL (F := F) ha q.1.2.1 q.1.2.2
            unfold fn_X3_useLocal_B122
            rw [k3.2.2.2.1, if_pos (show nI 0 = 0 from rfl), if_pos ((E 13 13 rfl (by omega)).mpr c13), e31, tk.1, tk.2, ← e31, g, cal_s, lt_t, bit_n (by omega)]
            have e2 : ∀ v, (sl (sl z3 67 a q.1.2.1) 62 13 v).2.1 62 12 = z3.2.1 62 12 := fun v => by rw [sl_oj (by omega), sl_ok (by omega)]
            rw [e2]
            rw [if_pos (show true = true from rfl)] at w1 w2
            exact ⟨_, rfl, w1, f3.trans w2⟩
  · rw [if_neg (fun q => c13 ((E 13 13 rfl (by omega)).mp q))]
    have k0 : CR sh n z kp f ls U.1.2.2 (.ok L) := h'
    obtain ⟨x1, x2⟩ := k0.there_c (F := F) ha
    obtain ⟨z1, q1, q2, q3, q4⟩ := k0.chk (F := F) (v := 5) (iv := 5) rfl (by omega) (by omega) (g := fun M => M.2.1 a) x1 x2 (k := fun z => fn_X3_useLocal_B70 F sh n (nI o) 62 (tL (ls.getD a [])) (bI (!isR (ls.getD a []))) (nI a) z)
    rw [q1, if_neg c13]
    unfold fn_X3_useLocal_B70
    rw [ok_b] at q2 q4
    by_cases c11 : o = 11
    · rw [if_pos ((E 11 11 rfl (by omega)).mpr c11)]
      obtain ⟨z2, s1, s2, s3, s4⟩ := q2.chk (F := F) (v := 4) (iv := 4) rfl (by omega) (by omega) (g := fun _ => hasC U (ls.getD a [])) (X := fn_X3_has F sh n z1 62 (tL (ls.getD a [])) 1) (fun M e => (q2.has_c hF (hu z1 q3) hm t2).1) (fun w e => ⟨_, (q2.has_c hF (hu z1 q3) hm t2).1⟩) (k := fun z => fn_X3_useLocal_B90 F sh n (bI (!isR (ls.getD a []))) 62 (nI o) (nI a) (tL (ls.getD a [])) z)
      rw [s1]
      obtain ⟨z3, p1, p2, p3, p4⟩ := s2.b90 (F := F) hF ha c0 (o := o) (by omega)
      have f3 := (q3.trans s3).trans p3
      have e11 : (o == 11) = true := by rw [c11]; rfl
      rw [p1, if_pos c11]
      rw [e11] at p2 p4
      cases y1 : L.2.1 a with
      | false =>
        rw [y1] at p2
        have p2' : CR sh n z3 kp f ls U.1.2.2 (.error 5) := p2
        rw [CB.b122 p2'.2 p2'.1]
        exact ⟨z3, rfl, p2', f3⟩
      | true =>
        rw [y1, nd_t, ok_b] at p2
        rw [nd_t, ok_b]
        rw [ok_b] at p2
        cases y2 : hasC U (ls.getD a []) with
        | false =>
          rw [y2] at p2
          have p2' : CR sh n z3 kp f ls U.1.2.2 (.error 4) := p2
          rw [CB.b122 p2'.2 p2'.1]
          exact ⟨z3, rfl, p2', f3⟩
        | true =>
          rw [y2, nd_t, ok_b, ok_b] at p2
          rw [nd_t, ok_b]
          cases y3 : (!(!isR (ls.getD a [])) || !lPt ls L a true) with
          | false =>
            rw [y3] at p2
            have p2' : CR sh n z3 kp f ls U.1.2.2 (.error 6) := p2
            rw [CB.b122 p2'.2 p2'.1]
            exact ⟨z3, rfl, p2', f3⟩
          | true =>
            rw [y3, nd_t, ok_b] at p2
            rw [nd_t, ok_b]
            have k3 : CK sh n z3 kp f ls U.1.2.2 L := p2
            obtain ⟨z4, w1, w2, w3⟩ := k3.b122 (F := F) hn ha (o := o) (Or.inl c11) y1
            refine ⟨z4, w1, ?_, f3.trans w3⟩
            cases e : lPush (ls.getD a [], rO (ls.getD a []) (L.2.2.1 a), rI (ls.getD a []) (L.2.2.2 a)) L with
            | error w => rw [e] at w2; exact w2
            | ok M => rw [e, ok_b, if_neg (show ¬ o = 12 by omega)] at w2; exact w2
    · have c12 : o = 12 := by omega
      rw [if_neg (fun q => c11 ((E 11 11 rfl (by omega)).mp q))]
      obtain ⟨z3, p1, p2, p3, p4⟩ := q2.b90 (F := F) hF ha c0 (o := o) (by omega)
      have f3 := q3.trans p3
      have e11 : (o == 11) = false := beq_eq_false_iff_ne.mpr c11
      rw [p1, if_neg c11, if_pos c12]
      rw [e11] at p2 p4
      cases y1 : L.2.1 a with
      | false =>
        rw [y1] at p2
        have p2' : CR sh n z3 kp f ls U.1.2.2 (.error 5) := p2
        rw [CB.b122 p2'.2 p2'.1]
        exact ⟨z3, rfl, p2', f3⟩
      | true =>
        rw [y1, nd_t, ok_b] at p2
        rw [nd_t, ok_b]
        rw [ok_b] at p2
        cases y3 : (!(!isR (ls.getD a [])) || !lPt ls L a false) with
        | false =>
          rw [y3] at p2
          have p2' : CR sh n z3 kp f ls U.1.2.2 (.error 6) := p2
          rw [CB.b122 p2'.2 p2'.1]
          exact ⟨z3, rfl, p2', f3⟩
        | true =>
          rw [y3, nd_t, ok_b] at p2
          rw [nd_t, ok_b]
          have k3 : CK sh n z3 kp f ls U.1.2.2 L := p2
          obtain ⟨z4, w1, w2, w3⟩ := k3.b122 (F := F) hn ha (o := o) (Or.inr c12) y1
          refine ⟨z4, w1, ?_, f3.trans w3⟩
          cases e : lPush (ls.getD a [], rO (ls.getD a []) (L.2.2.1 a), rI (ls.getD a []) (L.2.2.2 a)) L with
          | error w => rw [e] at w2; exact w2
          | ok M => rw [e, ok_b, if_pos c12] at w2; rw [ok_b]; exact w2
end
