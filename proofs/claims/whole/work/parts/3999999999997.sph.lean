/-! THE CLASS'S LOOKER: borrowing, references -/
section
variable {F n : Nat} {sh : Nat → Nat × Nat} {z z' : St} {kp f w ns : Nat} {ls : List Ty} {L : Lks} {U : Md}
theorem okZ_nar (b : Int32) : okZ (vp_nar .boolean b) = true := by
  show okZ (b &&& 1) = true
  have e : b &&& 1 = 0 ∨ b &&& 1 = 1 := by
    have k : (b &&& 1).toBitVec = BitVec.setWidth 32 (BitVec.ofBool (b.toBitVec.getLsbD 0)) := by
      rw [Int32.toBitVec_and]
      exact BitVec.and_one_eq_setWidth_ofBool_getLsbD
    cases q : b.toBitVec.getLsbD 0 with
    | false => rw [q] at k; left; exact Int32.toBitVec_inj.mp k
    | true => rw [q] at k; right; exact Int32.toBitVec_inj.mp k
  rcases e with e | e <;> rw [e] <;> rfl
theorem CB.put_x (h : CB sh n z kp f w) (hw : 0 < w) (x o : Int64) (b : Int32) : ∃ z', fn_X3_putReference F sh n z 62 x o b = some (z', ()) ∧ CB sh n z' kp f w ∧ FrQc z z' := by
  have h' := h
  obtain ⟨a1, a2, a3, a4, d, a5, a6, a7⟩ := h
  unfold fn_X3_putReference
  rw [h'.o3, grd_true, a5]
  by_cases c : d < 64
  · have ok : ∀ k c, shF k = (c, 64) → k < 513 → okA sh n k c (nI d) = true := fun k c' ee hk => by rw [lay_a a1 k c' 64 hk ee]; exact okI_nI (by omega) (by omega)
    have cp : (nI d).toNatClampNeg = d := nI_clamp (by omega)
    have bz : okZ (vp_nar .boolean b) = true := okZ_nar b
    rw [if_pos ((nIlt (x := 64) 64 rfl (by omega) (by omega)).mpr c), a1.2.2 62 5 63 rfl, lnk_s, ok 63 102 rfl (by omega), grd_true, lt_t, cp, sl_3, a1.2.2 62 6 64 rfl, lnk_s, sl_1, a5, ok 64 102 rfl (by omega), grd_true, lt_t, sl_3, sl_3, a1.2.2 62 7 65 rfl, lnk_s, sl_1, sl_1, a5, ok 65 103 rfl (by omega), grd_true, lt_t, cp, si_ok (show (62 : Nat) ≠ 65 by omega), sl_1, sl_1, a5, nI_1, lt_t]
    refine ⟨_, rfl, ⟨a1.of rfl, a2, ?_, ⟨?_, a4.2⟩, d + 1, si_ss, by omega, fun k hk => ?_⟩, (((FrQc.sl (.inr (.inl rfl))).trans (FrQc.sl (.inr (.inr (.inl rfl))))).trans (FrQc.si (.inr rfl))).trans (FrQc.si (.inl ⟨rfl, by omega⟩))⟩
    · rw [si_oj (by omega), si_ok (by omega), sl_1, sl_1]; exact a3
    · rw [si_oj (by omega), si_ok (by omega), sl_1, sl_1]; exact a4.1
    · rw [si_ok (by omega)]
      by_cases e : k = d
      · subst e; rw [si_ss]; exact bz
      · rw [si_oj e, sl_1, sl_1]; exact a7 k (by omega)
  · rw [if_neg (fun q => c ((nIlt (x := 64) 64 rfl (by omega) (by omega)).mp q)), h'.fail_e hw, cal_s]
    exact ⟨z, rfl, h', FrQc.rfl'⟩
theorem CB.putp_x (h : CB sh n z kp f w) (hw : 0 < w) (x : Int64) : ∃ z', fn_X3_put F sh n z 62 x = some (z', ()) ∧ CB sh n z' kp f w ∧ FrQc z z' := by
  obtain ⟨z1, q1, q2, q3⟩ := h.put_x (F := F) hw x 0 0
  unfold fn_X3_put
  rw [h.o3, grd_true, q1, cal_s]
  exact ⟨z1, rfl, q2, q3⟩
/-- a fault, if something isn't so -/
theorem CR.chkI {r : Px Lks} (h : CR sh n z kp f ls ns r) {c : Prop} [Decidable c] {v : Nat} {iv : Int32} (ev : iv = nI v) (hv : v < 16) (h0 : 0 < v) {g : Lks → Bool} (hok : ∀ M, r = .ok M → (c ↔ g M = false)) {k : St → Option (St × Unit)} : ∃ z', (if c then cal (fn_X3_fail F sh n z 62 iv) (fun z2 _ => k z2) else k z) = k z' ∧ CR sh n z' kp f ls ns (r >>= fun L => nd_ (g L) v >>= fun _ => .ok L) ∧ FrQc z z' ∧ ∀ M, (r >>= fun L => nd_ (g L) v >>= fun _ => .ok L) = .ok M → z' = z := by
  subst ev
  cases r with
  | error w =>
    rw [h.2.fail_e h.1, cal_s]
    refine ⟨z, ?_, h, FrQc.rfl', fun M q => rfl⟩
    by_cases d : c
    · rw [if_pos d]
    · rw [if_neg d]
  | ok M =>
    have i := hok M rfl
    show ∃ z', _ ∧ CR sh n z' kp f ls ns (nd_ (g M) v >>= fun _ => .ok M) ∧ _ ∧ ∀ M', (nd_ (g M) v >>= fun _ => .ok M) = .ok M' → z' = z
    cases e : g M with
    | true => rw [if_neg (fun q => by have := i.mp q; rw [e] at this; cases this)]; exact ⟨z, rfl, h, FrQc.rfl', fun M q => rfl⟩
    | false =>
      obtain ⟨z1, q1, q2, q3⟩ := CB.fail (F := F) (CK.cb h) hv
      rw [if_pos (i.mpr e), q1, cal_s]
      exact ⟨z1, rfl, ⟨h0, q2⟩, q3, fun M q => by cases q⟩
theorem CR.chkJ {r : Px Lks} (h : CR sh n z kp f ls ns r) {c : Prop} [Decidable c] {v : Nat} {iv : Int32} (ev : iv = nI v) (hv : v < 16) (h0 : 0 < v) {g : Lks → Bool} (hok : ∀ M, r = .ok M → (c ↔ g M = true)) {k : St → Option (St × Unit)} : ∃ z', (if c then k z else cal (fn_X3_fail F sh n z 62 iv) (fun z2 _ => k z2)) = k z' ∧ CR sh n z' kp f ls ns (r >>= fun L => nd_ (g L) v >>= fun _ => .ok L) ∧ FrQc z z' ∧ ∀ M, (r >>= fun L => nd_ (g L) v >>= fun _ => .ok L) = .ok M → z' = z := by
  have t := h.chkI (F := F) (c := ¬ c) ev hv h0 (g := g) (fun M e => by rw [hok M e]; simp) (k := k)
  rwa [ite_not] at t
theorem CK.borrowLocal (hF : 300 ≤ F) (h : CK sh n z kp f ls ns L) {a o : Nat} (ha : a < ls.length) (hl : isR (ls.getD a []) = false → (ls.getD a []).length ≤ 6) (ho : o = 14 ∨ o = 15) : ∃ z', fn_X3_borrowLocal F sh n z 62 (bI (o == 15)) (nI a) = some (z', ()) ∧ CR sh n z' kp f ls ns (aLocal U ls o a L) ∧ FrQc z z' := by
  have h' := h
  obtain ⟨a1, a2, a3, a4, ⟨b1, b2, b3⟩, ⟨c0, c1⟩, c2, c3⟩ := h
  have ok : okA sh n 66 102 (nI a) = true := by rw [lay_a a1 66 102 40 (by omega) rfl]; exact okI_nI (by omega) (by omega)
  have cp : (nI a).toNatClampNeg = a := nI_clamp (by omega)
  obtain ⟨t1, t2⟩ := c1 a ha
  have k0 : CR sh n z kp f ls ns (.ok L) := h'
  obtain ⟨x1, x2⟩ := k0.there_c (F := F) ha
  obtain ⟨z1, q1, q2, q3, _⟩ := k0.chk (F := F) (v := 5) (iv := 5) rfl (by omega) (by omega) (g := fun M => M.2.1 a) x1 x2 (k := fun z => fn_X3_borrowLocal_B20 F sh n (tL (ls.getD a [])) (bI (o == 15)) 62 (nI a) z)
  have ir := isRefC_t (F := F) (z := z1) (sh := sh) (n := n) hF t2.1
  obtain ⟨z2, s1, s2, s3, _⟩ := q2.chkN (F := F) (v := 3) (iv := 3) rfl (by omega) (by omega) (g := fun _ => isR (ls.getD a [])) (X := fn_X5_isReference F sh n z1 (tL (ls.getD a []))) (fun M e => ir) (fun w e => ⟨_, ir⟩) (k := fun z => fn_X3_borrowLocal_B32 F sh n (bI (o == 15)) 62 (nI a) (tL (ls.getD a [])) z)
  obtain ⟨l1, l2⟩ := s2.live_c (F := F) hF (x := bitO a) (wr := o == 14)
  obtain ⟨z3, p1, p2, p3, _⟩ := s2.chkN (F := F) (v := 6) (iv := 6) rfl (by omega) (by omega) (g := fun M => lPt ls M a (o == 14)) (X := fn_X3_isLive F sh n z2 62 (bitO a) (bI (o == 14))) (fun M e => by rw [l1 M e, lvB_pt ls M (by omega)]) l2 (k := fun z => fn_X3_borrowLocal_B57 F sh n (bI (o == 15)) (tL (ls.getD a [])) 62 (nI a) z)
  have f3 := (q3.trans s3).trans p3
  have hd : fn_X3_borrowLocal F sh n z 62 (bI (o == 15)) (nI a) = fn_X3_borrowLocal_B57 F sh n (bI (o == 15)) (tL (ls.getD a [])) 62 (nI a) z3 := by
    unfold fn_X3_borrowLocal
    rw [h'.cb.o3, grd_true, a1.2.2 62 9 66 rfl, lnk_s, ok, grd_true, cp, t1, lt_t, q1]
    unfold fn_X3_borrowLocal_B20
    rw [s1]
    unfold fn_X3_borrowLocal_B32
    rw [← p1]
    unfold fn_X3_borrowLocal_B45
    rw [bit_n (by omega)]
    rcases ho with e | e <;> subst e
    · rw [if_pos (show bI (14 == 15) = 0 from rfl)]; rfl
    · rw [if_neg (show ¬ bI (15 == 15) = 0 from one0)]; rfl
  have e57 : ∀ z, fn_X3_borrowLocal_B57 F sh n (bI (o == 15)) (tL (ls.getD a [])) 62 (nI a) z = fn_X3_borrowLocal_B69 F sh n (tL (ls.getD a [])) 62 (nI a) z (nI (if o = 14 then 8 else 9)) := fun z => by
    unfold fn_X3_borrowLocal_B57
    rcases ho with e | e <;> subst e
    · rw [if_pos (show bI (14 == 15) = 0 from rfl)]; rfl
    · rw [if_neg (show ¬ bI (15 == 15) = 0 from one0)]; rfl
  rw [hd, e57]
  unfold fn_X3_borrowLocal_B69
  rw [bit_n (by omega)]
  have ea : aLocal U ls o a L = (((Except.ok L : Px Lks) >>= fun L => nd_ (L.2.1 a) 5 >>= fun _ => .ok L) >>= fun L => nd_ (!isR (ls.getD a [])) 3 >>= fun _ => .ok L) >>= (fun L => nd_ (!lPt ls L a (o == 14)) 6 >>= fun _ => .ok L) >>= lPush ((if o = 14 then 8 else 9) :: ls.getD a [], bitO a, false) := by
    unfold aLocal
    rw [if_neg (show ¬ o = 13 by omega), if_neg (show ¬ o = 11 by omega), if_neg (show ¬ o = 12 by omega)]
    simp only [bA, ok_b]
  have ea' : aLocal U ls o a L = ((((Except.ok L : Px Lks) >>= fun L => nd_ (L.2.1 a) 5 >>= fun _ => .ok L) >>= fun L => nd_ (!isR (ls.getD a [])) 3 >>= fun _ => .ok L) >>= fun L => nd_ (!lPt ls L a (o == 14)) 6 >>= fun _ => .ok L) >>= lPush ((if o = 14 then 8 else 9) :: ls.getD a [], bitO a, false) := by
    exact ea
  rw [ea']
  obtain ⟨y, ey⟩ := pref_e (z := z3) (sh := sh) (n := n) hF (nI (if o = 14 then 8 else 9)) (tL (ls.getD a []))
  rw [ey, cal_s]
  obtain ⟨z4, w1, w2, w3⟩ := p2.putR (F := F) (t := (if o = 14 then 8 else 9) :: ls.getD a []) (x := y) (o := bitO a) (b := false) (fun M e => by
    have pr : isR (ls.getD a []) = false := by
      cases c : isR (ls.getD a []) with
      | false => rfl
      | true =>
        rw [c] at e
        simp only [bA, ok_b] at e
        cases c5 : L.2.1 a with
        | false => rw [c5] at e; cases e
        | true => rw [c5] at e; cases e
    have tb := t2.bor pr (hl pr) (r := if o = 14 then 8 else 9) (by by_cases c : o = 14 <;> simp [c])
    have g := prefC_t (F := F) (z := z3) (sh := sh) (n := n) hF (b := if o = 14 then 8 else 9) (by by_cases c : o = 14 <;> simp [c]) t2.1 (hl pr)
    rw [ey] at g
    refine ⟨tb, by cases g; rfl, fun q => ?_⟩
    exfalso
    by_cases c : o = 14
    · simp [c, isR, hdT] at q
    · simp [c, isR, hdT] at q)
  have w1' : fn_X3_putReference F sh n z3 62 y (bitO a) 0 = some (z4, ()) := w1
  rw [w1', cal_s]
  exact ⟨z4, rfl, w2, f3.trans w3⟩
end
