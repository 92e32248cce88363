/-! THE REFERENCE'S LOOKER: its rows -/
/-- a type that may lie on the stack -/
def TBr (ns : Nat) (t : Ty) : Prop := TB t ∧ (isR t = true → TB t.tail ∧ isR t.tail = false) ∧ ∀ s, endS t = some s → s < ns
def RK (sh : Nat → Nat × Nat) (n : Nat) (z : St) (ku f : Nat) (ls : List Ty) (ns w : Nat) (L : Lks) : Prop := Lay sh n z ∧ (z.2.2 355 0 = some ku ∧ z.1 355 1 = nI f ∧ z.1 355 2 = nI ls.length ∧ ls.length ≤ 40 ∧ ∀ k, k < ls.length → z.2.1 356 k = tL (ls.getD k []) ∧ TBr ns (ls.getD k [])) ∧ (z.1 355 14 = nI L.1.1 ∧ L.1.1 ≤ 65 ∧ (w = 0 → L.1.1 ≤ 64) ∧ ∀ k, k < L.1.1 → z.2.1 362 k = tL (L.1.2 k).1 ∧ z.2.1 363 k = (L.1.2 k).2.1 ∧ z.1 364 k = bI (L.1.2 k).2.2 ∧ TBr ns (L.1.2 k).1) ∧ (∀ k, k < ls.length → z.1 365 k = bI (L.2.1 k) ∧ z.2.1 366 k = L.2.2.1 k ∧ z.1 367 k = bI (L.2.2.2 k)) ∧ z.1 355 18 = nI w ∧ w < 16
/-- what looking at one operation leaves alone -/
def FrLk (z z' : St) : Prop := z'.2.2 = z.2.2 ∧ (∀ k, ¬ (362 ≤ k ∧ k ≤ 367) → k ≠ 355 → z'.1 k = z.1 k ∧ z'.2.1 k = z.2.1 k) ∧ (∀ j, j ≠ 14 → j ≠ 18 → j ≠ 21 → z'.1 355 j = z.1 355 j) ∧ ∀ j, j ≠ 19 → j ≠ 20 → z'.2.1 355 j = z.2.1 355 j
theorem FrLk.rfl' {z : St} : FrLk z z := ⟨rfl, fun _ _ _ => ⟨rfl, rfl⟩, fun _ _ _ _ => rfl, fun _ _ _ => rfl⟩
theorem FrLk.trans {z z' z'' : St} (f : FrLk z z') (g : FrLk z' z'') : FrLk z z'' := ⟨g.1.trans f.1, fun k a b => ⟨(g.2.1 k a b).1.trans (f.2.1 k a b).1, (g.2.1 k a b).2.trans (f.2.1 k a b).2⟩, fun j a b c => (g.2.2.1 j a b c).trans (f.2.2.1 j a b c), fun j a b => (g.2.2.2 j a b).trans (f.2.2.2 j a b)⟩
theorem FrLk.si {z : St} {k j : Nat} {v : Int32} (h : (k = 355 ∧ (j = 14 ∨ j = 18 ∨ j = 21)) ∨ (362 ≤ k ∧ k ≤ 367)) : FrLk z (si z k j v) := ⟨rfl, fun i a b => ⟨by funext l; rw [si_ok (by omega)], rfl⟩, fun l a b c => by
  by_cases e : k = 355
  · subst e; rw [si_oj (by omega)]
  · rw [si_ok (fun q => e q.symm)], fun _ _ _ => rfl⟩
theorem FrLk.sl {z : St} {k j : Nat} {v : Int64} (h : (k = 355 ∧ (j = 19 ∨ j = 20)) ∨ (362 ≤ k ∧ k ≤ 367)) : FrLk z (sl z k j v) := ⟨rfl, fun i a b => ⟨rfl, by funext l; rw [sl_ok (by omega)]⟩, fun l _ _ _ => rfl, fun l a b => by
  by_cases e : k = 355
  · subst e; rw [sl_oj (by omega)]
  · rw [sl_ok (fun q => e q.symm)]⟩
/-- what was taken last stays -/
def TkE (z z' : St) : Prop := z'.2.1 355 19 = z.2.1 355 19 ∧ z'.2.1 355 20 = z.2.1 355 20 ∧ z'.1 355 21 = z.1 355 21
def tknS (z : St) (q : SS) : Prop := z.2.1 355 19 = tL q.1 ∧ z.2.1 355 20 = q.2.1 ∧ z.1 355 21 = bI q.2.2
theorem ob_sh {x : Int64} {b : Nat} (hb : b < 64) : ((x >>> ((nI b).toInt64 &&& 63)) &&& 1 = 1) ↔ ob x b = true := by
  have e1 : ∀ y : Int64, (y &&& 1 = 1) ↔ N y % 2 = 1 := fun y => by
    have en : N (y &&& 1) = N y % 2 := by
      rw [N_and, N_1, show (1 : Nat) = 2 ^ 1 - 1 from rfl, Nat.and_two_pow_sub_one_eq_mod]
    constructor
    · intro h; rw [← en, h]; rfl
    · intro h; exact N_inj (by rw [en, h]; rfl)
  rw [e1]
  have e2 : (x >>> ((nI b).toInt64 &&& 63)).toBitVec = x.toBitVec.sshiftRight b := by
    rw [Int64.toBitVec_shiftRight]
    show x.toBitVec.sshiftRight (((nI b).toInt64 &&& 63).toBitVec.smod 64).toNat = _
    rw [shk_n b hb]
  have e3 : (N (x >>> ((nI b).toInt64 &&& 63)) % 2 = 1) ↔ (x >>> ((nI b).toInt64 &&& 63)).toBitVec.getLsbD 0 = true := by
    show _ ↔ Nat.testBit (N (x >>> ((nI b).toInt64 &&& 63))) 0 = true
    rw [Nat.testBit_zero, decide_eq_true_iff]
  rw [e3, e2, BitVec.getLsbD_sshiftRight]
  unfold ob
  simp [hb]
section
variable {F n : Nat} {sh : Nat → Nat × Nat} {z z' : St} {ku f w ns : Nat} {ls : List Ty} {L : Lks}
theorem RK.o13 (h : RK sh n z ku f ls ns w L) : okO sh n 355 13 = true := lay_o h.1 355 13 0 (by decide) rfl
/-- a fault, if there is none yet -/
theorem RK.fl (h : RK sh n z ku f ls ns w L) {v : Nat} (hv : v < 16) (h0 : 0 < v) : ∃ z', fn_X13_fail F sh n z 355 (nI v) = some (z', ()) ∧ RK sh n z' ku f ls ns (if w = 0 then v else w) L ∧ FrLk z z' ∧ TkE z z' := by
  have o := h.o13
  obtain ⟨a1, ⟨a2, a3, a4, a5, a6⟩, ⟨b1, b2, b3, b4⟩, c1, d1, d2⟩ := h
  by_cases c : w = 0
  · subst c
    refine ⟨si z 355 18 (nI v), ?_, ⟨a1.of rfl, ⟨a2, by rw [si_oj (by omega)]; exact a3, by rw [si_oj (by omega)]; exact a4, a5, a6⟩, ⟨by rw [si_oj (by omega)]; exact b1, b2, fun q => absurd q (by rw [if_pos rfl]; omega), fun k hk => by rw [si_ok (by omega)]; exact b4 k hk⟩, fun k hk => by rw [si_ok (by omega), si_ok (by omega)]; exact c1 k hk, by rw [si_ss, if_pos rfl], by rw [if_pos rfl]; exact hv⟩, FrLk.si (.inl ⟨rfl, .inr (.inl rfl)⟩), rfl, rfl, by rw [si_oj (by omega)]⟩
    unfold fn_X13_fail
    rw [o, grd_true, d1, if_pos (show nI 0 = 0 from rfl), lt_t]
  · refine ⟨z, ?_, by rw [if_neg c]; exact ⟨a1, ⟨a2, a3, a4, a5, a6⟩, ⟨b1, b2, b3, b4⟩, c1, d1, d2⟩, FrLk.rfl', rfl, rfl, rfl⟩
    unfold fn_X13_fail
    rw [o, grd_true, d1, if_neg (nI_ne0 (by omega) (by omega))]
theorem RK.need (h : RK sh n z ku f ls ns w L) (b : Bool) {v : Nat} (hv : v < 16) (h0 : 0 < v) : ∃ z', fn_X13_need F sh n z 355 (bI b) (nI v) = some (z', ()) ∧ RK sh n z' ku f ls ns (if w = 0 then (if b then 0 else v) else w) L ∧ FrLk z z' ∧ TkE z z' := by
  cases b with
  | true =>
    refine ⟨z, ?_, ?_, FrLk.rfl', rfl, rfl, rfl⟩
    · unfold fn_X13_need; rw [if_neg (show ¬ bI true = 0 from one0)]
    · by_cases c : w = 0
      · subst c; exact h
      · rw [if_neg c]; exact h
  | false =>
    obtain ⟨z', q1, q2, q3, q4⟩ := h.fl (F := F) hv h0
    refine ⟨z', ?_, q2, q3, q4⟩
    unfold fn_X13_need
    rw [if_pos (show bI false = 0 from rfl), h.o13, grd_true, q1, cal_s]
/-- nothing more is done once there is a fault -/
theorem RK.push_e (h : RK sh n z ku f ls ns w L) (hw : w ≠ 0) (x y : Int64) (v : Int32) : fn_X13_push F sh n z 355 x y v = some (z, ()) := by
  unfold fn_X13_push
  rw [h.o13, grd_true, h.2.2.2.2.1, if_neg (nI_ne0 (by omega) (by have := h.2.2.2.2.2; omega))]
theorem RK.give_e (h : RK sh n z ku f ls ns w L) (hw : w ≠ 0) (x : Int64) : fn_X13_give F sh n z 355 x = some (z, ()) := by
  unfold fn_X13_give
  rw [h.o13, grd_true, h.push_e hw, cal_s]
theorem RK.take_e (h : RK sh n z ku f ls ns w L) (hw : w ≠ 0) : fn_X13_take F sh n z 355 = some (z, ()) := by
  unfold fn_X13_take
  rw [h.o13, grd_true, h.2.2.2.2.1, if_neg (nI_ne0 (by omega) (by have := h.2.2.2.2.2; omega))]
theorem RK.takeT_e (h : RK sh n z ku f ls ns w L) (hw : w ≠ 0) (x : Int64) : fn_X13_take_ F sh n z 355 x = some (z, ()) := by
  unfold fn_X13_take_
  rw [h.o13, grd_true, h.take_e hw, cal_s, h.2.2.2.2.1, if_neg (nI_ne0 (by omega) (by have := h.2.2.2.2.2; omega))]
theorem RK.takeR_e (h : RK sh n z ku f ls ns w L) (hw : w ≠ 0) (x : Int64) (v : Int32) : fn_X13_takeReference F sh n z 355 x v = some (z, ()) := by
  unfold fn_X13_takeReference
  rw [h.o13, grd_true, h.take_e hw, cal_s, h.2.2.2.2.1, if_neg (nI_ne0 (by omega) (by have := h.2.2.2.2.2; omega))]
/-- something is pushed -/
theorem RK.push (hF : 300 ≤ F) (h : RK sh n z ku f ls ns 0 L) {t : Ty} (ht : TBr ns t) (o : Int64) (b : Bool) : ∃ z' v, fn_X13_push F sh n z 355 (tL t) o (bI b) = some (z', ()) ∧ FrLk z z' ∧ TkE z z' ∧ (v = 0 ∨ v = 2) ∧ RK sh n z' ku f ls ns v ((L.1.1 + 1, fun k => if k = L.1.1 then (t, rO t o, rI t b) else L.1.2 k), L.2) ∧ (v = 0 ↔ L.1.1 < 64) := by
  have h' := h
  obtain ⟨a1, ⟨a2, a3, a4, a5, a6⟩, ⟨b1, b2, b3, b4⟩, c1, d1, d2⟩ := h
  have b3' := b3 rfl
  have ok : ∀ k c, 362 ≤ k → k ≤ 364 → shF k = (c, 200) → okA sh n k c (nI L.1.1) = true := fun k c k1 k2 e => by rw [lay_a a1 k c 200 (by omega) e]; exact okI_nI (by omega) (by omega)
  have cp : (nI L.1.1).toNatClampNeg = L.1.1 := nI_clamp (by omega)
  -- the rows
  have key : ∀ (p : Int64) (q : Bool), p = rO t o → q = rI t b → ∃ z' v, fn_X13_push_B64 F sh n 364 (sl (sl z 362 L.1.1 (tL t)) 363 L.1.1 p) 355 (sl (sl z 362 L.1.1 (tL t)) 363 L.1.1 p) (bI q) = some (z', ()) ∧ FrLk z z' ∧ TkE z z' ∧ (v = 0 ∨ v = 2) ∧ RK sh n z' ku f ls ns v ((L.1.1 + 1, fun k => if k = L.1.1 then (t, rO t o, rI t b) else L.1.2 k), L.2) ∧ (v = 0 ↔ L.1.1 < 64) := fun p q hp hq => by
    have f1 : FrLk z (si (si (sl (sl z 362 L.1.1 (tL t)) 363 L.1.1 p) 364 L.1.1 (bI q)) 355 14 (nI (L.1.1 + 1))) := (((FrLk.sl (.inr (by omega))).trans (FrLk.sl (.inr (by omega)))).trans (FrLk.si (.inr (by omega)))).trans (FrLk.si (.inl ⟨rfl, .inl rfl⟩))
    have RR : ∀ v, v < 16 → (v = 0 → L.1.1 < 64) → ∀ z2, z2 = si (si (si (sl (sl z 362 L.1.1 (tL t)) 363 L.1.1 p) 364 L.1.1 (bI q)) 355 14 (nI (L.1.1 + 1))) 355 18 (nI v) → RK sh n z2 ku f ls ns v ((L.1.1 + 1, fun k => if k = L.1.1 then (t, rO t o, rI t b) else L.1.2 k), L.2) := fun v hv hv0 z2 e => by
      subst e
      refine ⟨a1.of rfl, ⟨a2, by rw [si_oj (by omega), si_oj (by omega), si_ok (by omega)]; exact a3, by rw [si_oj (by omega), si_oj (by omega), si_ok (by omega)]; exact a4, a5, fun k hk => by rw [si_2, si_2, si_2, sl_ok (by omega), sl_ok (by omega)]; exact a6 k hk⟩, ⟨by rw [si_oj (by omega), si_ss], by show L.1.1 + 1 ≤ 65; omega, fun x => by have := hv0 x; show L.1.1 + 1 ≤ 64; omega, fun k hk => ?_⟩, fun k hk => ?_, si_ss, hv⟩
      · have hk' : k < L.1.1 + 1 := hk
        by_cases c : k = L.1.1
        · subst c
          simp only [if_true]
          exact ⟨by rw [si_2, si_2, si_2, sl_ok (by omega), sl_ss], by rw [si_2, si_2, si_2, sl_ss, hp], by rw [si_ok (by omega), si_ok (by omega), si_ss, hq], ht⟩
        · simp only [if_neg c]
          obtain ⟨e1, e2, e3, e4⟩ := b4 k (by omega)
          exact ⟨by rw [si_2, si_2, si_2, sl_ok (by omega), sl_oj c]; exact e1, by rw [si_2, si_2, si_2, sl_oj c, sl_ok (by omega)]; exact e2, by rw [si_ok (by omega), si_ok (by omega), si_oj c]; exact e3, e4⟩
      · obtain ⟨e1, e2, e3⟩ := c1 k hk
        exact ⟨by rw [si_ok (by omega), si_ok (by omega), si_ok (by omega)]; exact e1, by rw [si_2, si_2, si_2, sl_ok (by omega), sl_ok (by omega)]; exact e2, by rw [si_ok (by omega), si_ok (by omega), si_ok (by omega)]; exact e3⟩
    have e18 : si (si (si (sl (sl z 362 L.1.1 (tL t)) 363 L.1.1 p) 364 L.1.1 (bI q)) 355 14 (nI (L.1.1 + 1))) 355 18 (nI 0) = si (si (sl (sl z 362 L.1.1 (tL t)) 363 L.1.1 p) 364 L.1.1 (bI q)) 355 14 (nI (L.1.1 + 1)) := by
      refine Prod.ext ?_ rfl
      funext k j
      by_cases c : k = 355
      · subst c
        by_cases c' : j = 18
        · subst c'; rw [si_ss, si_oj (by omega), si_ok (by omega), sl_1, sl_1, d1]
        · rw [si_oj c']
      · rw [si_ok c]
    have ev : (sl (sl z 362 L.1.1 (tL t)) 363 L.1.1 p).1 355 14 = nI L.1.1 := b1
    have e14 : (si (sl (sl z 362 L.1.1 (tL t)) 363 L.1.1 p) 364 L.1.1 (bI q)).1 355 14 + 1 = nI (L.1.1 + 1) := by rw [si_ok (by omega), ev, nI_1]
    have go : fn_X13_push_B64 F sh n 364 (sl (sl z 362 L.1.1 (tL t)) 363 L.1.1 p) 355 (sl (sl z 362 L.1.1 (tL t)) 363 L.1.1 p) (bI q) = if nI (L.1.1 + 1) ≤ 64 then some (si (si (sl (sl z 362 L.1.1 (tL t)) 363 L.1.1 p) 364 L.1.1 (bI q)) 355 14 (nI (L.1.1 + 1)), ()) else cal (fn_X13_fail F sh n (si (si (sl (sl z 362 L.1.1 (tL t)) 363 L.1.1 p) 364 L.1.1 (bI q)) 355 14 (nI (L.1.1 + 1))) 355 2) (fun z_28 _ => some (z_28, ())) := by
      unfold fn_X13_push_B64
      rw [ev, ok 364 103 (by omega) (by omega) rfl, grd_true, cp, nar_bI, lt_t, e14, lt_t, si_ss]
    rw [go]
    by_cases c : L.1.1 < 64
    · rw [if_pos ((nIle (x := 64) 64 rfl (by omega) (by omega)).mpr (by omega))]
      exact ⟨_, 0, rfl, f1, ⟨rfl, rfl, by rw [si_oj (by omega), si_ok (by omega)]; rfl⟩, .inl rfl, RR 0 (by omega) (fun _ => c) _ e18.symm, ⟨fun _ => c, fun _ => rfl⟩⟩
    · rw [if_neg (fun x => by have := (nIle (x := 64) 64 rfl (by omega) (by omega)).mp x; omega)]
      have fe : fn_X13_fail F sh n (si (si (sl (sl z 362 L.1.1 (tL t)) 363 L.1.1 p) 364 L.1.1 (bI q)) 355 14 (nI (L.1.1 + 1))) 355 2 = some (si (si (si (sl (sl z 362 L.1.1 (tL t)) 363 L.1.1 p) 364 L.1.1 (bI q)) 355 14 (nI (L.1.1 + 1))) 355 18 (nI 2), ()) := by
        unfold fn_X13_fail
        rw [h'.o13, grd_true, show (si (si (sl (sl z 362 L.1.1 (tL t)) 363 L.1.1 p) 364 L.1.1 (bI q)) 355 14 (nI (L.1.1 + 1))).1 355 18 = 0 by rw [si_oj (by omega), si_ok (by omega)]; exact d1, if_pos rfl, lt_t]
        rfl
      rw [fe, cal_s]
      exact ⟨_, 2, rfl, f1.trans (FrLk.si (.inl ⟨rfl, .inr (.inl rfl)⟩)), ⟨rfl, rfl, by rw [si_oj (by omega), si_oj (by omega), si_ok (by omega)]; rfl⟩, .inr rfl, RR 2 (by omega) (fun x => by omega) _ rfl, ⟨fun x => by omega, fun x => absurd x c⟩⟩
  have L1 : Lay sh n (sl z 362 L.1.1 (tL t)) := a1.of rfl
  have ev1 : (sl z 362 L.1.1 (tL t)).1 355 14 = nI L.1.1 := b1
  have b38 : ∀ p, p = rO t o → ∃ z' v, fn_X13_push_B38 F sh n 363 (sl z 362 L.1.1 (tL t)) 355 (tL t) (bI b) (sl z 362 L.1.1 (tL t)) p = some (z', ()) ∧ FrLk z z' ∧ TkE z z' ∧ (v = 0 ∨ v = 2) ∧ RK sh n z' ku f ls ns v ((L.1.1 + 1, fun k => if k = L.1.1 then (t, rO t o, rI t b) else L.1.2 k), L.2) ∧ (v = 0 ↔ L.1.1 < 64) := fun p hp => by
    have L2 : Lay sh n (sl (sl z 362 L.1.1 (tL t)) 363 L.1.1 p) := a1.of rfl
    unfold fn_X13_push_B38
    rw [ev1, ok 363 102 (by omega) (by omega) rfl, grd_true, cp, lt_t, L2.2.2 355 13 364 rfl, lnk_s, isRefR_t hF ht.1, cal_s]
    cases r : isR t with
    | false =>
      rw [if_pos (show bI false = 0 from rfl)]
      exact key p false hp (by unfold rI; rw [r]; rfl)
    | true =>
      rw [if_neg (show ¬ bI true = 0 from one0)]
      cases b with
      | false =>
        rw [if_pos (show bI false = 0 from rfl)]
        exact key p false hp (by unfold rI; rw [Bool.and_false])
      | true =>
        rw [if_neg (show ¬ bI true = 0 from one0)]
        exact key p true hp (by unfold rI; rw [r]; rfl)
  unfold fn_X13_push
  rw [h'.o13, grd_true, d1, if_pos (show nI 0 = 0 from rfl), a1.2.2 355 11 362 rfl, lnk_s, b1, ok 362 102 (by omega) (by omega) rfl, grd_true, cp, lt_t, L1.2.2 355 12 363 rfl, lnk_s, isRefR_t hF ht.1, cal_s]
  cases r : isR t with
  | false =>
    rw [if_pos (show bI false = 0 from rfl)]
    exact b38 0 (by unfold rO; rw [r]; rfl)
  | true =>
    rw [if_neg (show ¬ bI true = 0 from one0)]
    exact b38 o (by unfold rO; rw [r]; rfl)
/-- something is taken -/
theorem RK.take (h : RK sh n z ku f ls ns 0 L) : ∃ z' v L', fn_X13_take F sh n z 355 = some (z', ()) ∧ FrLk z z' ∧ RK sh n z' ku f ls ns v L' ∧ ((v = 1 ∧ L.1.1 = 0) ∨ (v = 0 ∧ 0 < L.1.1 ∧ L' = ((L.1.1 - 1, L.1.2), L.2) ∧ tknS z' (L.1.2 (L.1.1 - 1)))) := by
  have h' := h
  obtain ⟨a1, ⟨a2, a3, a4, a5, a6⟩, ⟨b1, b2, b3, b4⟩, c1, d1, d2⟩ := h
  have b3' := b3 rfl
  by_cases c : L.1.1 = 0
  · obtain ⟨z', q1, q2, q3, q4⟩ := h'.fl (F := F) (v := 1) (by omega) (by omega)
    refine ⟨z', 1, L, ?_, q3, q2, .inl ⟨rfl, c⟩⟩
    unfold fn_X13_take
    rw [h'.o13, grd_true, d1, if_pos (show nI 0 = 0 from rfl), b1, if_pos (by rw [c]; rfl)]
    have q1' : fn_X13_fail F sh n z 355 1 = some (z', ()) := q1
    rw [q1', cal_s]
  · obtain ⟨m, em⟩ : ∃ m, L.1.1 = m + 1 := ⟨L.1.1 - 1, by omega⟩
    obtain ⟨s1, s2, s3, s4⟩ := b4 m (by omega)
    have e1 : nI L.1.1 - 1 = nI m := by rw [em, ← nI_1, Int32.add_sub_cancel]
    have cp : (nI m).toNatClampNeg = m := nI_clamp (by omega)
    have ok : ∀ k c, 362 ≤ k → k ≤ 364 → shF k = (c, 200) → okA sh n k c (nI m) = true := fun k c k1 k2 e => by rw [lay_a a1 k c 200 (by omega) e]; exact okI_nI (by omega) (by omega)
    have v1 : (si z 355 14 (nI m)).1 355 14 = nI m := si_ss
    have v2 : (si z 355 14 (nI m)).2.1 362 m = tL (L.1.2 m).1 := s1
    have L1 : Lay sh n (si z 355 14 (nI m)) := a1.of rfl
    have L2 : Lay sh n (sl (si z 355 14 (nI m)) 355 19 (tL (L.1.2 m).1)) := a1.of rfl
    have L3 : Lay sh n (sl (sl (si z 355 14 (nI m)) 355 19 (tL (L.1.2 m).1)) 355 20 (L.1.2 m).2.1) := a1.of rfl
    have v3 : (sl (si z 355 14 (nI m)) 355 19 (tL (L.1.2 m).1)).2.1 363 m = (L.1.2 m).2.1 := by rw [sl_ok (by omega)]; exact s2
    have v4 : (sl (sl (si z 355 14 (nI m)) 355 19 (tL (L.1.2 m).1)) 355 20 (L.1.2 m).2.1).1 364 m = bI (L.1.2 m).2.2 := by rw [sl_1, sl_1, si_ok (by omega)]; exact s3
    have okz : okZ (bI (L.1.2 m).2.2) = true := by cases (L.1.2 m).2.2 <;> rfl
    refine ⟨si (sl (sl (si z 355 14 (nI m)) 355 19 (tL (L.1.2 m).1)) 355 20 (L.1.2 m).2.1) 355 21 (bI (L.1.2 m).2.2), 0, ((L.1.1 - 1, L.1.2), L.2), ?_, (((FrLk.si (.inl ⟨rfl, .inl rfl⟩)).trans (FrLk.sl (.inl ⟨rfl, .inl rfl⟩))).trans (FrLk.sl (.inl ⟨rfl, .inr rfl⟩))).trans (FrLk.si (.inl ⟨rfl, .inr (.inr rfl)⟩)), ⟨a1.of rfl, ⟨a2, by rw [si_oj (by omega), sl_1, sl_1, si_oj (by omega)]; exact a3, by rw [si_oj (by omega), sl_1, sl_1, si_oj (by omega)]; exact a4, a5, fun k hk => by rw [si_2, sl_ok (by omega), sl_ok (by omega), si_2]; exact a6 k hk⟩, ⟨by rw [si_oj (by omega), sl_1, sl_1, si_ss, em]; rfl, by show L.1.1 - 1 ≤ 65; omega, fun _ => by show L.1.1 - 1 ≤ 64; omega, fun k hk => ?_⟩, fun k hk => ?_, by rw [si_oj (by omega), sl_1, sl_1, si_oj (by omega)]; exact d1, d2⟩, .inr ⟨rfl, by omega, rfl, ?_⟩⟩
    · unfold fn_X13_take
      rw [h'.o13, grd_true, d1, if_pos (show nI 0 = 0 from rfl), b1, if_neg (nI_ne0 (by omega) (by omega)), e1, lt_t, L1.2.2 355 11 362 rfl, lnk_s, v1, ok 362 102 (by omega) (by omega) rfl, grd_true, cp, v2, lt_t, L2.2.2 355 12 363 rfl, lnk_s, show (sl (si z 355 14 (nI m)) 355 19 (tL (L.1.2 m).1)).1 355 14 = nI m from v1, ok 363 102 (by omega) (by omega) rfl, grd_true, cp, v3, lt_t, L3.2.2 355 13 364 rfl, lnk_s, show (sl (sl (si z 355 14 (nI m)) 355 19 (tL (L.1.2 m).1)) 355 20 (L.1.2 m).2.1).1 355 14 = nI m from v1, ok 364 103 (by omega) (by omega) rfl, grd_true, cp, v4, okz, grd_true, lt_t]
    · have hk' : k < L.1.1 - 1 := hk
      obtain ⟨e1, e2, e3, e4⟩ := b4 k (by omega)
      exact ⟨by rw [si_2, sl_ok (by omega), sl_ok (by omega), si_2]; exact e1, by rw [si_2, sl_ok (by omega), sl_ok (by omega), si_2]; exact e2, by rw [si_ok (by omega), sl_1, sl_1, si_ok (by omega)]; exact e3, e4⟩
    · obtain ⟨e1, e2, e3⟩ := c1 k hk
      exact ⟨by rw [si_ok (by omega), sl_1, sl_1, si_ok (by omega)]; exact e1, by rw [si_2, sl_ok (by omega), sl_ok (by omega), si_2]; exact e2, by rw [si_ok (by omega), sl_1, sl_1, si_ok (by omega)]; exact e3⟩
    · rw [show L.1.1 - 1 = m by omega]
      exact ⟨by rw [si_2, sl_oj (by omega), sl_ss], by rw [si_2, sl_ss], si_ss⟩
end
