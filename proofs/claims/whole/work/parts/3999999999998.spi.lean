/-! THE CLASS'S LOOKER: references -/
section
variable {F n : Nat} {sh : Nat → Nat × Nat} {z z' : St} {kp f w ns : Nat} {ls : List Ty} {L : Lks} {U : Md}
theorem or1536 {a : Nat} (ha : a < 256) : (1536 : Int32) ||| nI a = nI (1536 + a) := by
  apply Int32.toBitVec_inj.mp
  rw [Int32.toBitVec_or]
  apply BitVec.eq_of_toNat_eq
  rw [BitVec.toNat_or]
  show 1536 ||| (a % 2 ^ 32) = (1536 + a) % 2 ^ 32
  rw [Nat.mod_eq_of_lt (by omega), Nat.mod_eq_of_lt (by omega)]
  have e := Nat.shiftLeft_add_eq_or_of_lt (show a < 2 ^ 9 by omega) 3
  have e3 : 3 <<< 9 = 1536 := rfl
  rw [e3] at e
  exact e.symm
theorem stC_t {a : Nat} (ha : a < 256) : fn_X5_structureType F sh n z (nI a) = some (z, tL [6, a]) := by
  unfold fn_X5_structureType
  rw [or1536 ha, nI_l (by omega)]
  have e : tL [6, a] = lN (1536 + a) := by simp [tL, tV]
  rw [e]
theorem CT.cr {r : Px (SS × Lks)} (h : CT sh n z kp f ls ns r) : CR sh n z kp f ls ns (r >>= fun q => .ok q.2) := by
  cases r with
  | error w => exact h
  | ok q => exact h.1
theorem CK.refG (hF : 300 ≤ F) (h : CK sh n z kp f ls ns L) (wr : Bool) : ∃ z' x, fn_X3_takeReference F sh n z 62 (bI wr) = some (z', x) ∧ CT sh n z' kp f ls ns (lTakeR none wr L) ∧ FrQc z z' ∧ AbO ns x ∧ ∀ q, lTakeR none wr L = .ok q → x = tL q.1.1.tail := by
  obtain ⟨z1, x, q1, q2, q3⟩ := h.take (F := F)
  unfold fn_X3_takeReference lTakeR
  rw [h.cb.o3, grd_true, q1, cal_s]
  rcases q3 with ⟨e1, e2, e3⟩ | ⟨q, e1, e2, e3, e4, e5, e6⟩
  · rw [e1, e2, (head_0 hF).2.1, cal_s, if_pos rfl, e3.fail_e (by omega), cal_s, (head_0 hF).2.2, cal_s]
    exact ⟨z1, _, rfl, ⟨by omega, e3⟩, q2, AbO.z0 ns, fun q e => by cases e⟩
  · obtain ⟨z2, s1, s2, s3⟩ := e3.cb.fail (F := F) (v := 3) (by omega)
    have s1' : fn_X3_fail F sh n z1 62 3 = some (z2, ()) := s1
    obtain ⟨b, u, eu, _, _⟩ := e5.1.ne
    have tb := e5.1
    have ab := e5
    rw [eu] at tb ab
    have pt : ∀ z9, fn_X5_pointee F sh n z9 (tL (b :: u)) = some (z9, tL u) := fun z9 => pointC_t hF tb
    rw [e1, e2, eu, isRefC_t hF tb, cal_s, ok_b, ← eu]
    cases r : isR q.1.1 with
    | false =>
      rw [if_pos (show bI false = 0 from rfl), s1', cal_s, eu, pt, cal_s]
      exact ⟨z2, _, rfl, ⟨by decide, s2⟩, q2.trans s3, AbO.tail ab, fun q e => by cases e⟩
    | true =>
      rw [if_neg (show ¬ bI true = 0 from one0), eu, pt, cal_s, Bool.true_and, nd_t, ok_b]
      have fin : CT sh n z1 kp f ls ns (.ok q) := ⟨e3, e4, e5, e6⟩
      have et : q.1.1.tail = u := by rw [eu]; rfl
      cases wr with
      | false =>
        rw [if_pos (show bI false = 0 from rfl)]
        exact ⟨z1, _, rfl, fin, q2, AbO.tail ab, fun q' e => by cases e; rw [et]⟩
      | true =>
        rw [if_neg (show ¬ bI true = 0 from one0), writesC_t hF tb, cal_s, pt, cal_s]
        cases e : (hdT (b :: u) == 9) with
        | true => rw [if_neg (show ¬ bI true = 0 from one0)]; exact ⟨z1, _, rfl, fin, q2, AbO.tail ab, fun q' e => by cases e; rw [et]⟩
        | false =>
          obtain ⟨z3, u1, u2, u3⟩ := e3.cb.fail (F := F) (v := 7) (by omega)
          have u1' : fn_X3_fail F sh n z1 62 7 = some (z3, ()) := u1
          rw [if_pos (show bI false = 0 from rfl), u1', cal_s, pt, cal_s]
          exact ⟨z3, _, rfl, ⟨by decide, u2⟩, q2.trans u3, AbO.tail ab, fun q' e => by cases e⟩
theorem CK.refer (hF : 300 ≤ F) (h : CK sh n z kp f ls U.1.2.2 L) (hu : ∀ z', FrQc z z' → CnL F sh n z' kp U) (hm : MdO U) {o a b : Nat} {xa xb : Int32} (ha : o = 16 ∨ o = 17 → xa = nI a ∧ xb = nI b) (o1 : 16 ≤ o) (o2 : o < 21) (hab : o = 16 ∨ o = 17 → a < U.1.2.1 ∧ b < (fdsOf U a).length) : ∃ z', fn_X3_refer F sh n z 62 (nI o) xa xb = some (z', ()) ∧ CR sh n z' kp f ls U.1.2.2 (aRef U ls o a b L) ∧ FrQc z z' := by
  have E : ∀ (m : Nat) (x : Int32), x = nI m → m < 100 → (nI o = x ↔ o = m) := fun m x e hm => nIe m e (by omega) (by omega)
  unfold fn_X3_refer aRef
  by_cases c67 : o = 16 ∨ o = 17
  · obtain ⟨rfl, rfl⟩ := ha c67
    obtain ⟨ha', hb⟩ := hab c67
    have hsz := hm.2.1
    have a64 : a < 256 := by omega
    have pl : PlO U.1.2.2 ((fdsOf U a).getD b []) := (hm.2.2.1 a ha').2 _ (by rw [List.getD_eq_getElem?_getD, List.getElem?_eq_getElem hb]; exact List.getElem_mem hb)
    rw [if_neg (fun q => by have := (nIgt (x := 17) 17 rfl (by omega) (by omega)).mp q; omega), if_pos c67, stC_t a64, cal_s]
    have key : ∀ wr : Bool, wr = (o == 17) → ∃ z', fn_X3_refer_B22 F sh n 62 (tL [6, a]) (nI o) (nI a) (nI b) z (bI wr) = some (z', ()) ∧ CR sh n z' kp f ls U.1.2.2 (lTakeR (some [6, a]) wr L >>= fun q => lPush ((if o = 17 then 9 else 8) :: (fdsOf U a).getD b [], q.1.2.1, true) q.2) ∧ FrQc z z' := fun wr ew => by
      obtain ⟨z1, q1, q2, q3⟩ := h.refTo (F := F) hF (t := [6, a]) (TBrs (ns := U.1.2.2) (by omega) a64).1 wr
      have b38 : ∀ z9 : St, fn_X3_refer_B22 F sh n 62 (tL [6, a]) (nI o) (nI a) (nI b) z (bI wr) = fn_X3_refer_B38 F sh n 62 (nI a) (nI b) z1 (nI (if o = 17 then 9 else 8)) := fun z9 => by
        unfold fn_X3_refer_B22
        rw [h.cb.o3, grd_true, q1, cal_s]
        by_cases c : o = 17
        · rw [if_pos ((E 17 17 rfl (by omega)).mpr c), if_pos c]; rfl
        · rw [if_neg (fun q => c ((E 17 17 rfl (by omega)).mp q)), if_neg c]; rfl
      have u1 := hu z1 q3
      have rr : (if o = 17 then 9 else 8) = 8 ∨ (if o = 17 then 9 else 8) = 9 := by by_cases c : o = 17 <;> simp [c]
      have pr := prefC_t (F := F) (z := z1) (sh := sh) (n := n) hF (b := if o = 17 then 9 else 8) (by omega) pl.1.1 pl.2.2
      rw [b38 z]
      unfold fn_X3_refer_B38
      have l2 : z1.2.2 62 2 = some kp := by rw [q3.1]; exact h.2.1
      rw [l2, lnk_s, u1.1, grd_true, (u1.2.2.1 a ha').2 b hb, cal_s, pr, cal_s]
      cases e : lTakeR (some [6, a]) wr L with
      | error w =>
        rw [e] at q2
        obtain ⟨z2, s1, s2, s3⟩ := q2.2.put_x (F := F) q2.1 (tL ((if o = 17 then 9 else 8) :: (fdsOf U a).getD b [])) (z1.2.1 62 14) 1
        rw [s1, cal_s]
        exact ⟨z2, rfl, ⟨q2.1, s2⟩, q3.trans s3⟩
      | ok q =>
        rw [e] at q2
        obtain ⟨k1, k2, k3, k4⟩ := q2
        have tb := pl.1.bor pl.2.1 pl.2.2 rr
        obtain ⟨z2, s1, s2, s3⟩ := k1.put (F := F) tb q.1.2.1 true (fun r => by exfalso; by_cases c : o = 17 <;> simp [c, isR, hdT] at r)
        have s1' : fn_X3_putReference F sh n z1 62 (tL ((if o = 17 then 9 else 8) :: (fdsOf U a).getD b [])) q.1.2.1 1 = some (z2, ()) := s1
        rw [k2.1, s1', cal_s]
        exact ⟨z2, rfl, s2, q3.trans s3⟩
    by_cases c : o = 17
    · rw [if_pos ((E 17 17 rfl (by omega)).mpr c), show (o == 17) = true from by rw [c]; rfl]
      exact key true (by rw [c]; rfl)
    · rw [if_neg (fun q => c ((E 17 17 rfl (by omega)).mp q)), show (o == 17) = false from beq_eq_false_iff_ne.mpr c]
      exact key false (beq_eq_false_iff_ne.mpr c).symm
  rw [if_pos ((nIgt (x := 17) 17 rfl (by omega) (by omega)).mpr (by omega)), if_neg c67]
  by_cases c18 : o = 18
  · rw [if_pos ((E 18 18 rfl (by omega)).mpr c18), if_pos c18]
    obtain ⟨z1, x, q1, q2, q3, q4, q5⟩ := h.refG (F := F) hF false
    have q1' : fn_X3_takeReference F sh n z 62 0 = some (z1, x) := q1
    rw [h.cb.o3, grd_true, q1', cal_s]
    cases e : lTakeR none false L with
    | error w =>
      rw [e] at q2
      have k1 : CR sh n z1 kp f ls U.1.2.2 (.error w) := q2
      obtain ⟨b1, e1⟩ := k1.has_x (F := F) hF (hu z1 q3) q4 1
      obtain ⟨z2, s1, s2, s3⟩ := q2.2.putp_x (F := F) q2.1 x
      rw [e1, cal_s, q2.2.fail_e q2.1, cal_s, s1, cal_s]
      refine ⟨z2, ?_, ⟨q2.1, s2⟩, q3.trans s3⟩
      by_cases c : b1 = 0
      · rw [if_pos c]
      · rw [if_neg c]
    | ok q =>
      rw [e] at q2
      obtain ⟨k1, k2, k3, k4⟩ := q2
      have kr : CR sh n z1 kp f ls U.1.2.2 (.ok q.2) := k1
      have ex := q5 q e
      obtain ⟨r1, r2⟩ := lR_ok e
      obtain ⟨g1, g2, g3⟩ := k3.tl r1
      have hs := (kr.has_c (U := U) hF (hu z1 q3) hm g1).1
      obtain ⟨z2, s1, s2, s3, _⟩ := kr.chk (F := F) (v := 4) (iv := 4) rfl (by omega) (by omega) (g := fun _ => hasC U q.1.1.tail) (X := fn_X3_has F sh n z1 62 x 1) (fun M _ => by rw [ex]; exact hs) (fun w e => by cases e) (k := fun z => cal (fn_X3_put F sh n z 62 x) (fun z_47 _ => some (z_47, ())))
      obtain ⟨z3, p1, p2, p3⟩ := s2.put (F := F) (t := q.1.1.tail) (x := x) (fun M _ => ⟨g1, ex⟩)
      rw [s1, p1, cal_s, ok_b]
      refine ⟨z3, rfl, ?_, (q3.trans s3).trans p3⟩
      simpa only [bA, ok_b] using p2
  rw [if_neg (fun q => c18 ((E 18 18 rfl (by omega)).mp q)), if_neg c18]
  obtain ⟨z1, x, q1, q2, q3, q4, q5⟩ := h.refG (F := F) hF true
  have q1' : fn_X3_takeReference F sh n z 62 1 = some (z1, x) := q1
  by_cases c19 : o = 19
  · rw [if_pos ((E 19 19 rfl (by omega)).mpr c19), if_pos c19, h.cb.o3, grd_true, q1', cal_s, lt_t]
    have l2 : ∀ z9, FrQc z z9 → z9.2.2 62 2 = some kp := fun z9 q => by rw [q.1]; exact h.2.1
    have b147 : ∀ z9 (r : Px Lks), CR sh n z9 kp f ls U.1.2.2 r → ∃ z', fn_X3_refer_B147 F sh n 62 (z1.2.1 62 14) z9 = some (z', ()) ∧ CR sh n z' kp f ls U.1.2.2 (r >>= fun L => nd_ (lSole ls L (z1.2.1 62 14)) 6 >>= fun _ => .ok L) ∧ FrQc z9 z' := fun z9 r k9 => by
      obtain ⟨x1, x2⟩ := k9.sole_c (F := F) hF (x := z1.2.1 62 14)
      obtain ⟨z', w1, w2, w3, _⟩ := k9.chk (F := F) (v := 6) (iv := 6) rfl (by omega) (by omega) (g := fun M => lSole ls M (z1.2.1 62 14)) x1 x2 (k := fun z => some (z, ()))
      exact ⟨z', w1, w2, w3⟩
    cases e : lTakeR none true L with
    | error w =>
      rw [e] at q2
      obtain ⟨z2, s1, s2, s3⟩ := q2.2.only_e (F := F) q2.1 x
      have u2 := hu z2 (q3.trans s3)
      obtain ⟨rb, eb⟩ := abil_e (F := F) (z := z2) (sh := sh) (n := n) hF q4 u2.1 u2.2.2.2.1
      obtain ⟨z3, p1, p2, p3⟩ := b147 z2 (.error w) ⟨q2.1, s2⟩
      rw [s1, cal_s, l2 z2 (q3.trans s3), lnk_s, u2.1, grd_true, eb, cal_s, s2.fail_e q2.1, cal_s, p1]
      refine ⟨z3, ?_, p2, (q3.trans s3).trans p3⟩
      by_cases c : rb &&& 2 = 0
      · rw [if_pos c]
      · rw [if_neg c]
    | ok q =>
      rw [e] at q2
      obtain ⟨k1, k2, k3, k4⟩ := q2
      have ex := q5 q e
      obtain ⟨r1, r2⟩ := lR_ok e
      obtain ⟨g1, g2, g3⟩ := k3.tl r1
      have kr : CR sh n z1 kp f ls U.1.2.2 (.ok q.2) := k1
      obtain ⟨z2, s1, s2, s3⟩ := kr.only (F := F) (t := q.1.1.tail) (x := x) (fun M _ => ⟨g1.1, ex⟩)
      have u2 := hu z2 (q3.trans s3)
      have hs : ∀ s, endS q.1.1.tail = some s → fn_X5_structureColumn F sh n z2 kp (nI s) 0 = some (z2, nI (U.2.1 s)) ∧ U.2.1 s < 16 := fun s qq => ⟨u2.2.2.2.1 s (g1.2.2 s qq), hm.1 s (g1.2.2 s qq)⟩
      have ab := abilC_t (F := F) hF g1.1 u2.1 hs
      have a16 : abT U q.1.1.tail < 16 := abT_16 (fun s qq => (hs s qq).2)
      obtain ⟨m1, m2, m3⟩ := ab1 _ a16
      rw [ok_b] at s2
      obtain ⟨z3, p1, p2, p3, _⟩ := s2.chkI (F := F) (c := nI (abT U q.1.1.tail) &&& 2 = 0) (v := 4) (iv := 4) rfl (by omega) (by omega) (g := fun _ => hasD U q.1.1.tail) (fun M _ => by
        rw [m2]
        unfold hasD
        rw [beq_eq_false_iff_ne]
        omega) (k := fun z => fn_X3_refer_B147 F sh n 62 (z1.2.1 62 14) z)
      obtain ⟨z4, w1, w2, w3⟩ := b147 z3 _ p2
      rw [s1, cal_s, l2 z2 (q3.trans s3), lnk_s, u2.1, grd_true, ex, ab, cal_s, p1, w1]
      refine ⟨z4, rfl, ?_, ((q3.trans s3).trans p3).trans w3⟩
      rw [k2.1] at w2
      rw [ok_b]
      simpa only [bA, ok_b] using w2
  · rw [if_neg (fun q => c19 ((E 19 19 rfl (by omega)).mp q)), if_neg c19, h.cb.o3, grd_true, q1', cal_s]
    cases e : lTakeR none true L with
    | error w =>
      rw [e] at q2
      obtain ⟨y, ey⟩ := pref_e (F := F) (z := z1) (sh := sh) (n := n) hF 8 x
      obtain ⟨z2, s1, s2, s3⟩ := q2.2.put_x (F := F) q2.1 y (z1.2.1 62 14) (z1.1 62 15)
      rw [ey, cal_s, s1, cal_s]
      exact ⟨z2, rfl, ⟨q2.1, s2⟩, q3.trans s3⟩
    | ok q =>
      rw [e] at q2
      obtain ⟨k1, k2, k3, k4⟩ := q2
      have ex := q5 q e
      obtain ⟨r1, r2⟩ := lR_ok e
      obtain ⟨g1, g2, g3⟩ := k3.tl r1
      have pr := prefC_t (F := F) (z := z1) (sh := sh) (n := n) hF (b := 8) (by omega) g1.1 g3
      have pr' : fn_X5_prefixed F sh n z1 8 (tL q.1.1.tail) = some (z1, tL (8 :: q.1.1.tail)) := pr
      obtain ⟨z2, s1, s2, s3⟩ := k1.put (F := F) (g1.bor g2 g3 (Or.inl rfl)) q.1.2.1 q.1.2.2 (fun r => by simp [isR, hdT] at r)
      rw [ex, pr', cal_s, k2.1, k2.2, s1, cal_s]
      exact ⟨z2, rfl, s2, q3.trans s3⟩
end
