/-! THE REFERENCE'S LOOKER: locals -/
section
variable {F n : Nat} {sh : Nat → Nat × Nat} {z z' : St} {ku f w ns : Nat} {ls : List Ty} {L : Lks} {U : Md}
theorem RK.need_e (h : RK sh n z ku f ls ns w L) (hw : 0 < w) (b : Bool) (v : Int32) : fn_X13_need F sh n z 355 (bI b) v = some (z, ()) := by
  unfold fn_X13_need
  cases b with
  | true => rw [if_neg (show ¬ bI true = 0 from one0)]
  | false =>
    rw [if_pos (show bI false = 0 from rfl), h.o13, grd_true]
    unfold fn_X13_fail
    rw [h.o13, grd_true, if_neg (h.ee hw), cal_s]
/-- a need, told by cases -/
theorem RK.nd (h : RK sh n z ku f ls ns 0 L) (b : Bool) {v : Nat} (hv : v < 16) (h0 : 0 < v) : ∃ z', fn_X13_need F sh n z 355 (bI b) (nI v) = some (z', ()) ∧ FrLk z z' ∧ TkE z z' ∧ (b = true → RK sh n z' ku f ls ns 0 L) ∧ (b = false → RK sh n z' ku f ls ns v L) := by
  obtain ⟨z', q1, q2, q3, q4⟩ := h.need (F := F) b hv h0
  rw [if_pos rfl] at q2
  exact ⟨z', q1, q3, q4, fun e => by rw [e, if_pos rfl] at q2; exact q2, fun e => by rw [e, if_neg (by simp)] at q2; exact q2⟩
/-- a local is set -/
theorem RK.setL (h : RK sh n z ku f ls ns 0 L) {a : Nat} (ha : a < ls.length) (t : Bool) (o : Int64) (i : Bool) : RK sh n (si (sl (si z 365 a (bI t)) 366 a o) 367 a (bI i)) ku f ls ns 0 (lSetL L a t o i) ∧ FrLk z (si (sl (si z 365 a (bI t)) 366 a o) 367 a (bI i)) := by
  obtain ⟨a1, ⟨a2, a3, a4, a5, a6⟩, ⟨b1, b2, b3, b4⟩, c1, d1, d2⟩ := h
  refine ⟨⟨a1.of rfl, ⟨a2, by rw [si_ok (by omega), sl_1, si_ok (by omega)]; exact a3, by rw [si_ok (by omega), sl_1, si_ok (by omega)]; exact a4, a5, fun k hk => by rw [si_2, sl_ok (by omega), si_2]; exact a6 k hk⟩, ⟨by rw [si_ok (by omega), sl_1, si_ok (by omega)]; exact b1, b2, b3, fun k hk => by rw [si_2, sl_ok (by omega), si_2, sl_ok (by omega), si_2, si_ok (by omega), sl_1, si_ok (by omega)]; exact b4 k hk⟩, fun k hk => ?_, by rw [si_ok (by omega), sl_1, si_ok (by omega)]; exact d1, d2⟩, ((FrLk.si (.inr (by omega))).trans (FrLk.sl (.inr (by omega)))).trans (FrLk.si (.inr (by omega)))⟩
  obtain ⟨e1, e2, e3⟩ := c1 k hk
  by_cases c : k = a
  · subst c
    exact ⟨by rw [si_ok (by omega), sl_1, si_ss]; simp [lSetL], by rw [si_2, sl_ss]; simp [lSetL], by rw [si_ss]; simp [lSetL]⟩
  · exact ⟨by rw [si_ok (by omega), sl_1, si_oj c]; simp [lSetL, c]; exact e1, by rw [si_2, sl_oj c, si_2]; simp [lSetL, c]; exact e2, by rw [si_oj c, sl_1, si_ok (by omega)]; simp [lSetL, c]; exact e3⟩
/-- rows of a local -/
theorem RK.lr (h : RK sh n z ku f ls ns w L) {a : Nat} (ha : a < ls.length) : (∀ k c, shF k = (c, 40) → k < 513 → okA sh n k c (nI a) = true) ∧ (nI a).toNatClampNeg = a ∧ (z.1 365 a = bI (L.2.1 a) ∧ z.2.1 366 a = L.2.2.1 a ∧ z.1 367 a = bI (L.2.2.2 a)) := by
  have a5 := h.2.1.2.2.2.1
  exact ⟨fun k c ee hk => by rw [lay_a h.1 k c 40 hk ee]; exact okI_nI (by omega) (by omega), nI_clamp (by omega), h.2.2.2.1 a ha⟩
theorem RK.b198e (h : RK sh n z ku f ls ns w L) (hw : 0 < w) {a : Nat} (ha : a < ls.length) (t : Ty) (b : Bool) : fn_X13_onLocal_B198 F sh n 355 (nI a) (tL t) z (bI b) = some (z, ()) := by
  obtain ⟨ok, ca, _⟩ := h.lr ha
  unfold fn_X13_onLocal_B198
  rw [h.need_e hw, cal_s, h.1.2.2 355 16 366 rfl, lnk_s, ok 366 102 rfl (by omega), grd_true, h.1.2.2 355 17 367 rfl, lnk_s, ok 367 103 rfl (by omega), grd_true, h.push_e (by omega), cal_s]
theorem RK.b198 (hF : 300 ≤ F) (h : RK sh n z ku f ls ns 0 L) {a : Nat} (ha : a < ls.length) {t : Ty} (ht : TBr ns t) (b : Bool) : OpR sh n z ku f ls ns (fn_X13_onLocal_B198 F sh n 355 (nI a) (tL t) z (bI b)) (nd_ b 6 >>= fun _ => lPush (t, rO t (L.2.2.1 a), rI t (L.2.2.2 a)) L) := by
  obtain ⟨z1, q1, q2, q3, q4, q5⟩ := h.nd (F := F) b (v := 6) (by omega) (by omega)
  have q1' : fn_X13_need F sh n z 355 (bI b) 6 = some (z1, ()) := q1
  unfold fn_X13_onLocal_B198
  cases b with
  | false =>
    have k := q5 rfl
    obtain ⟨ok, ca, _⟩ := k.lr ha
    rw [q1', cal_s, k.1.2.2 355 16 366 rfl, lnk_s, ok 366 102 rfl (by omega), grd_true, k.1.2.2 355 17 367 rfl, lnk_s, ok 367 103 rfl (by omega), grd_true, k.push_e (by omega), cal_s]
    exact ⟨z1, rfl, ⟨by omega, _, k⟩, q2⟩
  | true =>
    have k := q4 rfl
    obtain ⟨ok, ca, l1, l2, l3⟩ := k.lr ha
    obtain ⟨z2, p1, p2, p3, p4⟩ := k.pushP (F := F) hF ht (L.2.2.1 a) (L.2.2.2 a)
    rw [q1', cal_s, k.1.2.2 355 16 366 rfl, lnk_s, ok 366 102 rfl (by omega), grd_true, k.1.2.2 355 17 367 rfl, lnk_s, ok 367 103 rfl (by omega), grd_true, ca, l2, l3, p1, cal_s]
    exact ⟨z2, rfl, p2, q2.trans p3⟩
theorem RK.b249e (h : RK sh n z ku f ls ns w L) (hw : 0 < w) {a : Nat} (ha : a < ls.length) (t : Ty) (b : Bool) : fn_X13_onLocal_B249 F sh n 355 (nI a) (tL t) z (bI b) = some (z, ()) := by
  obtain ⟨ok, ca, _⟩ := h.lr ha
  unfold fn_X13_onLocal_B249
  rw [h.need_e hw, cal_s, h.1.2.2 355 16 366 rfl, lnk_s, ok 366 102 rfl (by omega), grd_true, h.1.2.2 355 17 367 rfl, lnk_s, ok 367 103 rfl (by omega), grd_true, h.push_e (by omega), cal_s, if_neg (h.ee hw)]
theorem RK.b249 (hF : 300 ≤ F) (h : RK sh n z ku f ls ns 0 L) {a : Nat} (ha : a < ls.length) {t : Ty} (ht : TBr ns t) (b : Bool) : OpR sh n z ku f ls ns (fn_X13_onLocal_B249 F sh n 355 (nI a) (tL t) z (bI b)) (nd_ b 6 >>= fun _ => lPush (t, rO t (L.2.2.1 a), rI t (L.2.2.2 a)) L >>= fun L => .ok (lSetL L a false 0 false)) := by
  obtain ⟨z1, q1, q2, q3, q4, q5⟩ := h.nd (F := F) b (v := 6) (by omega) (by omega)
  have q1' : fn_X13_need F sh n z 355 (bI b) 6 = some (z1, ()) := q1
  unfold fn_X13_onLocal_B249
  cases b with
  | false =>
    have k := q5 rfl
    obtain ⟨ok, ca, _⟩ := k.lr ha
    rw [q1', cal_s, k.1.2.2 355 16 366 rfl, lnk_s, ok 366 102 rfl (by omega), grd_true, k.1.2.2 355 17 367 rfl, lnk_s, ok 367 103 rfl (by omega), grd_true, k.push_e (by omega), cal_s, if_neg (k.ee (by omega))]
    exact ⟨z1, rfl, ⟨by omega, _, k⟩, q2⟩
  | true =>
    have k := q4 rfl
    obtain ⟨ok, ca, l1, l2, l3⟩ := k.lr ha
    obtain ⟨z2, p1, p2, p3, p4⟩ := k.pushP (F := F) hF ht (L.2.2.1 a) (L.2.2.2 a)
    rw [q1', cal_s, k.1.2.2 355 16 366 rfl, lnk_s, ok 366 102 rfl (by omega), grd_true, k.1.2.2 355 17 367 rfl, lnk_s, ok 367 103 rfl (by omega), grd_true, ca, l2, l3, p1, cal_s, nd_t, ok_b]
    cases r : lPush (t, rO t (L.2.2.1 a), rI t (L.2.2.2 a)) L with
    | error w =>
      rw [r] at p2
      obtain ⟨w0, M, p2⟩ := p2
      rw [if_neg (p2.ee w0)]
      exact ⟨z2, rfl, ⟨w0, M, p2⟩, q2.trans p3⟩
    | ok M =>
      rw [r] at p2
      have p2 : RK sh n z2 ku f ls ns 0 M := p2
      have n0 : vp_nar .boolean 0 = bI false := rfl
      have L4 : Lay sh n (si z2 365 a (bI false)) := p2.1.of rfl
      have L5 : Lay sh n (sl (si z2 365 a (bI false)) 366 a 0) := p2.1.of rfl
      obtain ⟨x1, x2⟩ := p2.setL ha false 0 false
      rw [if_pos p2.e0, p2.1.2.2 355 15 365 rfl, lnk_s, ok 365 103 rfl (by omega), grd_true, n0, lt_t, L4.2.2 355 16 366 rfl, lnk_s, ok 366 102 rfl (by omega), grd_true, lt_t, L5.2.2 355 17 367 rfl, lnk_s, ok 367 103 rfl (by omega), grd_true, lt_t]
      exact ⟨_, rfl, x1, (q2.trans p3).trans x2⟩
theorem bef_e (hF : 300 ≤ F) {t : Ty} (h : TB t) (b : Int32) : ∃ x, fn_X13_before F sh n z b (tL t) = some (z, x) := by
  unfold fn_X13_before
  rw [bytesOf_t hF h, cal_s]
  exact ⟨_, rfl⟩
theorem RK.b335e (hF : 300 ≤ F) (h : RK sh n z ku f ls ns w L) (hw : 0 < w) {a : Nat} {t : Ty} (ht : TBr ns t) (o : Int32) (b : Bool) : fn_X13_onLocal_B335 F sh n 355 o (tL t) (nI a) z (bI b) = some (z, ()) := by
  have k : ∀ p, fn_X13_onLocal_B354 F sh n (tL t) 355 (nI a) z p = some (z, ()) := fun p => by
    unfold fn_X13_onLocal_B354
    obtain ⟨x, e⟩ := bef_e (F := F) (n := n) (sh := sh) (z := z) hF ht.1 p
    rw [e, cal_s, h.push_e (by omega), cal_s]
  unfold fn_X13_onLocal_B335
  rw [h.need_e hw, cal_s, k, k]
  by_cases c : o = 14
  · rw [if_pos c]
  · rw [if_neg c]
theorem TBr.bor {t : Ty} (h : TBr ns t) (hp : isR t = false) (h6 : t.length ≤ 6) {r : Nat} (hr : r = 8 ∨ r = 9) : TBr ns (r :: t) := by
  obtain ⟨h1, h2, h3⟩ := h
  refine ⟨⟨by rw [List.length_cons]; omega, ⟨by show 1 ≤ r; omega, by show r ≤ 9; omega⟩, fun b hb => ?_⟩, fun _ => ⟨h1, hp⟩, fun s hs => h3 s ?_⟩
  · rcases List.mem_cons.mp hb with e | e
    · omega
    · exact h1.2.2 b e
  · obtain ⟨b, p, e, _⟩ := h1.ne
    subst e
    cases p with
    | nil =>
      simp only [endS] at hs
      rw [if_neg (by omega)] at hs
      exact absurd hs (by simp)
    | cons c p => exact hs
theorem RK.b335 (hF : 300 ≤ F) (h : RK sh n z ku f ls ns 0 L) {a o : Nat} (ha : a < 40) {t : Ty} (ht : TBr ns t) (hp : isR t = false) (h6 : t.length ≤ 6) (o1 : o = 14 ∨ o = 15) (b : Bool) : OpR sh n z ku f ls ns (fn_X13_onLocal_B335 F sh n 355 (nI o) (tL t) (nI a) z (bI b)) (nd_ b 6 >>= fun _ => lPush ((if o = 14 then 8 else 9) :: t, bitO a, false) L) := by
  obtain ⟨z1, q1, q2, q3, q4, q5⟩ := h.nd (F := F) b (v := 6) (by omega) (by omega)
  have q1' : fn_X13_need F sh n z 355 (bI b) 6 = some (z1, ()) := q1
  unfold fn_X13_onLocal_B335
  rw [q1', cal_s]
  have eb : (1 : Int64) <<< ((nI a).toInt64 &&& 63) = bitO a := by
    apply N_inj
    unfold bitO
    have e1 : (nI a).toInt64 &&& 63 = lN a := by
      rw [nI_l (by omega)]
      apply N_inj
      rw [N_and, N_lN (by omega), show N 63 = 2 ^ 6 - 1 from rfl, Nat.and_two_pow_sub_one_eq_mod]
      omega
    rw [e1]
  cases b with
  | false =>
    have k := q5 rfl
    have kk : ∀ p, fn_X13_onLocal_B354 F sh n (tL t) 355 (nI a) z1 p = some (z1, ()) := fun p => by
      unfold fn_X13_onLocal_B354
      obtain ⟨x, e⟩ := bef_e (F := F) (n := n) (sh := sh) (z := z1) hF ht.1 p
      rw [e, cal_s, k.push_e (by omega), cal_s]
    rw [kk, kk]
    refine ⟨z1, ?_, ⟨by omega, _, k⟩, q2⟩
    by_cases c : nI o = 14
    · rw [if_pos c]
    · rw [if_neg c]
  | true =>
    have k := q4 rfl
    rw [nd_t, ok_b]
    have go : ∀ r, r = 8 ∨ r = 9 → OpR sh n z ku f ls ns (fn_X13_onLocal_B354 F sh n (tL t) 355 (nI a) z1 (nI r)) (lPush (r :: t, bitO a, false) L) := fun r hr => by
      obtain ⟨z2, p1, p2, p3, p4⟩ := k.pushP (F := F) hF (ht.bor hp h6 hr) (bitO a) false
      have p1' : fn_X13_push F sh n z1 355 (tL (r :: t)) (bitO a) 0 = some (z2, ()) := p1
      unfold fn_X13_onLocal_B354
      rw [beforeR_t hF (by omega) ht.1 h6, cal_s, eb, p1', cal_s]
      refine ⟨z2, rfl, ?_, q2.trans p3⟩
      have e1 : rO (r :: t) (bitO a) = bitO a := by unfold rO; rw [isR_c hr]; rfl
      have e2 : rI (r :: t) false = false := by unfold rI; rw [Bool.and_false]
      rw [e1, e2] at p2
      exact p2
    rcases o1 with e | e
    · subst e; exact go 8 (.inl rfl)
    · subst e; exact go 9 (.inr rfl)
theorem RK.onLocal (hF : 300 ≤ F) (h : RK sh n z ku f ls U.1.2.2 0 L) (hu : ∀ z', FrLk z z' → UnL F sh n z' ku U) (hm : MdO U) {o a : Nat} (o1 : 11 ≤ o) (o2 : o < 16) (ha : a < ls.length) (h6 : isR (ls.getD a []) = false → (ls.getD a []).length ≤ 6) : OpR sh n z ku f ls U.1.2.2 (fn_X13_onLocal F sh n z 355 (nI o) (nI a)) (aLocal U ls o a L) := by
  have h' := h
  obtain ⟨a1, ⟨a2, a3, a4, a5, a6⟩, ⟨b1, b2, b3, b4⟩, c1, d1, d2⟩ := h
  obtain ⟨g1, g2⟩ := a6 a ha
  have ok : ∀ k c, shF k = (c, 40) → k < 513 → okA sh n k c (nI a) = true := fun k c ee hk => by rw [lay_a a1 k c 40 hk ee]; exact okI_nI (by omega) (by omega)
  have ca : (nI a).toNatClampNeg = a := nI_clamp (by omega)
  have pI : ∀ x : Bool, (if bI x = 0 then (1 : Int32) else 0) = bI (!x) := fun x => by cases x <;> rfl
  -- plain or not
  have main : OpR sh n z ku f ls U.1.2.2 (fn_X13_onLocal_B19 F sh n (nI o) 355 (tL (ls.getD a [])) (nI a) z (bI (!isR (ls.getD a [])))) (aLocal U ls o a L) := by
    generalize et : ls.getD a [] = t at *
    unfold aLocal
    rw [et]
    simp only
    generalize ep : (!isR t) = pl at *
    unfold fn_X13_onLocal_B19
    by_cases c13 : o = 13
    · subst c13
      rw [if_pos (by rfl), if_pos rfl]
      obtain ⟨z1, q1, q2, q3⟩ := h'.takeTP (F := F) g2.1
      rw [q1, cal_s]
      have e2 : (lTake L >>= fun q => nd_ (q.1.1 == t) 3 >>= fun _ => nd_ (!L.2.1 a || hasD U t) 4 >>= fun _ => nd_ (!pl || !lPt ls q.2 a false) 6 >>= fun _ => .ok (lSetL q.2 a true (rO t q.1.2.1) (rI t q.1.2.2))) = (lTakeQ t L >>= fun q => nd_ (!L.2.1 a || hasD U t) 4 >>= fun _ => nd_ (!pl || !lPt ls q.2 a false) 6 >>= fun _ => .ok (lSetL q.2 a true (rO t q.1.2.1) (rI t q.1.2.2))) := by
        unfold lTakeQ
        cases lTake L with
        | error w => rfl
        | ok q =>
          rw [ok_b, ok_b]
          cases nd_ (q.1.1 == t) 3 <;> rfl
      rw [e2]
      cases r : lTakeQ t L with
      | error w =>
        rw [r] at q2
        obtain ⟨w0, M, q2⟩ := q2
        have ee := q2.ee w0
        have b56 : ∀ b : Bool, fn_X13_onLocal_B56 F sh n 355 (bI pl) (nI a) z1 (bI b) = some (z1, ()) := fun b => by
          have b87 : fn_X13_onLocal_B82 F sh n 355 (nI a) (bI pl) z1 = some (z1, ()) := by
            unfold fn_X13_onLocal_B82 fn_X13_onLocal_B87
            have := q2.need_e (F := F) w0 true 6
            have this' : fn_X13_need F sh n z1 355 1 6 = some (z1, ()) := this
            rw [this', cal_s, if_neg ee]
          unfold fn_X13_onLocal_B56
          rw [q2.need_e w0, cal_s]
          by_cases c : bI pl = 0
          · rw [if_pos c, b87]
          · rw [if_neg c, if_neg ee, b87]
        have th := (q2.2.2.2.1 a ha).1
        rw [q2.1.2.2 355 15 365 rfl, lnk_s, ok 365 103 rfl (by omega), grd_true, ca, th]
        refine ⟨z1, ?_, ⟨w0, M, q2⟩, q3⟩
        cases M.2.1 a with
        | false =>
          rw [if_pos (show bI false = 0 from rfl)]
          exact b56 true
        | true =>
          rw [if_neg (show ¬ bI true = 0 from one0), (q2.has hF (hu z1 q3) hm g2).2.1, cal_s]
          cases hasD U t with
          | false => rw [if_pos (show bI false = 0 from rfl)]; exact b56 false
          | true => rw [if_neg (show ¬ bI true = 0 from one0)]; exact b56 true
      | ok q =>
        rw [r] at q2
        obtain ⟨k1, k2, k3⟩ := q2
        have el : q.2.2 = L.2 := by
          unfold lTakeQ lTake at r
          by_cases c : L.1.1 = 0
          · rw [if_pos c] at r; cases r
          · rw [if_neg c, ok_b] at r
            cases e : ((L.1.2 (L.1.1 - 1)).1 == t) with
            | false => rw [e] at r; cases r
            | true => rw [e] at r; cases r; rfl
        have th := (k1.2.2.2.1 a ha).1
        rw [k1.1.2.2 355 15 365 rfl, lnk_s, ok 365 103 rfl (by omega), grd_true, ca, th, el, ok_b]
        -- behind the first need
        have b56 : ∀ b b' : Bool, b' = b → OpR sh n z ku f ls U.1.2.2 (fn_X13_onLocal_B56 F sh n 355 (bI pl) (nI a) z1 (bI b)) (nd_ b' 4 >>= fun _ => nd_ (!pl || !lPt ls q.2 a false) 6 >>= fun _ => .ok (lSetL q.2 a true (rO t q.1.2.1) (rI t q.1.2.2))) := fun b b' eb => by
          subst eb
          obtain ⟨z2, s1, s2, s3, s4, s5⟩ := k1.nd (F := F) b' (v := 4) (by omega) (by omega)
          have s1' : fn_X13_need F sh n z1 355 (bI b') 4 = some (z2, ()) := s1
          unfold fn_X13_onLocal_B56
          rw [s1', cal_s]
          cases b' with
          | false =>
            have k := s5 rfl
            have b87 : fn_X13_onLocal_B82 F sh n 355 (nI a) (bI pl) z2 = some (z2, ()) := by
              unfold fn_X13_onLocal_B82 fn_X13_onLocal_B87
              have this' : fn_X13_need F sh n z2 355 1 6 = some (z2, ()) := k.need_e (F := F) (by omega) true 6
              rw [this', cal_s, if_neg (k.ee (by omega))]
            refine ⟨z2, ?_, ⟨by omega, _, k⟩, q3.trans s2⟩
            by_cases c : bI pl = 0
            · rw [if_pos c, b87]
            · rw [if_neg c, if_neg (k.ee (by omega)), b87]
          | true =>
            have k := s4 rfl
            rw [nd_t, ok_b]
            have b87 : ∀ g g' : Bool, g' = g → OpR sh n z ku f ls U.1.2.2 (fn_X13_onLocal_B87 F sh n 355 (nI a) (bI pl) z2 (bI g)) (nd_ g' 6 >>= fun _ => .ok (lSetL q.2 a true (rO t q.1.2.1) (rI t q.1.2.2))) := fun g g' eg => by
              subst eg
              obtain ⟨z3, u1, u2, u3, u4, u5⟩ := k.nd (F := F) g' (v := 6) (by omega) (by omega)
              have u1' : fn_X13_need F sh n z2 355 (bI g') 6 = some (z3, ()) := u1
              unfold fn_X13_onLocal_B87
              rw [u1', cal_s]
              cases g' with
              | false =>
                have k' := u5 rfl
                rw [if_neg (k'.ee (by omega))]
                exact ⟨z3, rfl, ⟨by omega, _, k'⟩, (q3.trans s2).trans u2⟩
              | true =>
                have k' := u4 rfl
                have L3 := k'.1
                have L4 : Lay sh n (si z3 365 a (bI true)) := L3.of rfl
                have t20 : (si z3 365 a (bI true)).2.1 355 20 = q.1.2.1 := by rw [si_2, u3.2.1, s3.2.1]; exact k2.2.1
                have t21 : ∀ v, (sl (si z3 365 a (bI true)) 366 a v).1 355 21 = bI q.1.2.2 := fun v => by rw [sl_1, si_ok (by omega), u3.2.2, s3.2.2]; exact k2.2.2
                have n1 : vp_nar .boolean 1 = bI true := rfl
                have n0 : vp_nar .boolean 0 = bI false := rfl
                rw [if_pos k'.e0, L3.2.2 355 15 365 rfl, lnk_s, ok 365 103 rfl (by omega), grd_true, ca, n1, lt_t, L4.2.2 355 16 366 rfl, lnk_s, t20, nd_t, ok_b]
                have fin : ∀ v i, v = rO t q.1.2.1 → i = rI t q.1.2.2 → OpR sh n z ku f ls U.1.2.2 (some (si (sl (si z3 365 a (bI true)) 366 a v) 367 a (bI i), ())) (.ok (lSetL q.2 a true (rO t q.1.2.1) (rI t q.1.2.2))) := fun v i ev ei => by
                  obtain ⟨x1, x2⟩ := k'.setL ha true v i
                  rw [← ev, ← ei]
                  exact ⟨_, rfl, x1, ((q3.trans s2).trans u2).trans x2⟩
                have rp : isR t = !pl := by rw [← ep, Bool.not_not]
                cases pl with
                | true =>
                  rw [if_neg (show ¬ bI true = 0 from one0)]
                  unfold fn_X13_onLocal_B125
                  rw [ok 366 102 rfl (by omega), grd_true, ca, lt_t, (show Lay sh n (sl (si z3 365 a (bI true)) 366 a 0) from L3.of rfl).2.2 355 17 367 rfl, lnk_s, if_neg (show ¬ bI true = 0 from one0), ok 367 103 rfl (by omega), grd_true, n0, lt_t]
                  exact fin 0 false (by unfold rO; rw [rp]; rfl) (by unfold rI; rw [rp]; rfl)
                | false =>
                  rw [if_pos (show bI false = 0 from rfl)]
                  unfold fn_X13_onLocal_B125
                  rw [ok 366 102 rfl (by omega), grd_true, ca, lt_t, (show Lay sh n (sl (si z3 365 a (bI true)) 366 a q.1.2.1) from L3.of rfl).2.2 355 17 367 rfl, lnk_s, if_pos (show bI false = 0 from rfl), t21]
                  cases ei : q.1.2.2 with
                  | false =>
                    rw [if_pos (show bI false = 0 from rfl), ok 367 103 rfl (by omega), grd_true, n0, lt_t]
                    have := fin q.1.2.1 false (by unfold rO; rw [rp]; rfl) (by unfold rI; rw [rp, ei]; rfl)
                    rw [ei] at this
                    exact this
                  | true =>
                    rw [if_neg (show ¬ bI true = 0 from one0), ok 367 103 rfl (by omega), grd_true, n1, lt_t]
                    have := fin q.1.2.1 true (by unfold rO; rw [rp]; rfl) (by unfold rI; rw [rp, ei]; rfl)
                    rw [ei] at this
                    exact this
            cases pl with
            | false =>
              rw [if_pos (show bI false = 0 from rfl)]
              exact b87 true _ rfl
            | true =>
              have p0 : fn_X13_isPointed F sh n z2 355 (nI a) 0 = some (z2, bI (lPt ls q.2 a false)) := k.pt hF (by omega) false
              rw [if_neg (show ¬ bI true = 0 from one0), if_pos k.e0, p0, cal_s]
              cases e : lPt ls q.2 a false with
              | false => rw [if_pos (show bI false = 0 from rfl)]; exact b87 true _ rfl
              | true => rw [if_neg (show ¬ bI true = 0 from one0)]; exact b87 false _ rfl
        cases e : L.2.1 a with
        | false =>
          rw [if_pos (show bI false = 0 from rfl)]
          exact b56 true _ rfl
        | true =>
          rw [if_neg (show ¬ bI true = 0 from one0), (k1.has hF (hu z1 q3) hm g2).2.1, cal_s]
          cases ed : hasD U t with
          | false => rw [if_pos (show bI false = 0 from rfl)]; exact b56 false _ rfl
          | true => rw [if_neg (show ¬ bI true = 0 from one0)]; exact b56 true _ rfl
    · rw [if_neg (fun q => c13 ((nIe (x := 13) 13 rfl (by omega) (by omega)).mp q)), if_neg c13]
      have th := (c1 a ha).1
      obtain ⟨z1, q1, q2, q3, q4, q5⟩ := h'.nd (F := F) (L.2.1 a) (v := 5) (by omega) (by omega)
      have q1' : fn_X13_need F sh n z 355 (bI (L.2.1 a)) 5 = some (z1, ()) := q1
      rw [a1.2.2 355 15 365 rfl, lnk_s, ok 365 103 rfl (by omega), grd_true, ca, th, q1', cal_s]
      have pt0 : ∀ b : Bool, ∀ z1 w, RK sh n z1 ku f ls U.1.2.2 w L → fn_X13_isPointed F sh n z1 355 (nI a) (bI b) = some (z1, bI (lPt ls L a b)) := fun b z1 w k => k.pt hF (by omega) b
      cases e5 : L.2.1 a with
      | false =>
        have k := q5 e5
        refine ⟨z1, ?_, ⟨by decide, _, k⟩, q2⟩
        by_cases c11 : o = 11
        · rw [if_pos ((nIe (x := 11) 11 rfl (by omega) (by omega)).mpr c11), (k.has hF (hu z1 q2) hm g2).1, cal_s, k.need_e (by omega), cal_s]
          unfold fn_X13_onLocal_B193
          have b1 : ∀ b : Bool, fn_X13_onLocal_B198 F sh n 355 (nI a) (tL t) z1 (bI b) = some (z1, ()) := fun b => k.b198e (by omega) ha t b
          cases pl with
          | false => rw [if_pos (show bI false = 0 from rfl)]; exact b1 true
          | true =>
            have this' : fn_X13_isPointed F sh n z1 355 (nI a) 1 = some (z1, bI (lPt ls L a true)) := pt0 true z1 5 k
            rw [if_neg (show ¬ bI true = 0 from one0), this', cal_s]
            cases lPt ls L a true with
            | false => rw [if_pos (show bI false = 0 from rfl)]; exact b1 true
            | true => rw [if_neg (show ¬ bI true = 0 from one0)]; exact b1 false
        · rw [if_neg (fun q => c11 ((nIe (x := 11) 11 rfl (by omega) (by omega)).mp q))]
          by_cases c12 : o = 12
          · rw [if_pos ((nIe (x := 12) 12 rfl (by omega) (by omega)).mpr c12)]
            unfold fn_X13_onLocal_B244
            have b1 : ∀ b : Bool, fn_X13_onLocal_B249 F sh n 355 (nI a) (tL t) z1 (bI b) = some (z1, ()) := fun b => k.b249e (by omega) ha t b
            cases pl with
            | false => rw [if_pos (show bI false = 0 from rfl)]; exact b1 true
            | true =>
              have this' : fn_X13_isPointed F sh n z1 355 (nI a) 0 = some (z1, bI (lPt ls L a false)) := pt0 false z1 5 k
              rw [if_neg (show ¬ bI true = 0 from one0), this', cal_s]
              cases lPt ls L a false with
              | false => rw [if_pos (show bI false = 0 from rfl)]; exact b1 true
              | true => rw [if_neg (show ¬ bI true = 0 from one0)]; exact b1 false
          · rw [if_neg (fun q => c12 ((nIe (x := 12) 12 rfl (by omega) (by omega)).mp q)), k.need_e (by omega), cal_s]
            have b1 : ∀ b : Bool, fn_X13_onLocal_B324 F sh n 355 (nI a) (nI o) (tL t) z1 (bI b) = some (z1, ()) := fun b => by
              unfold fn_X13_onLocal_B324
              rw [pt0 b z1 5 k, cal_s]
              cases lPt ls L a b with
              | false => rw [if_pos (show bI false = 0 from rfl)]; exact k.b335e hF (by omega) g2 (nI o) true
              | true => rw [if_neg (show ¬ bI true = 0 from one0)]; exact k.b335e hF (by omega) g2 (nI o) false
            by_cases c14 : nI o = 14
            · rw [if_pos c14]; exact b1 true
            · rw [if_neg c14]; exact b1 false
      | true =>
        have k := q4 e5
        rw [nd_t, ok_b]
        have lift : ∀ {z2 : St} {X : Option (St × Unit)} {r : Px Lks}, FrLk z z2 → OpR sh n z2 ku f ls U.1.2.2 X r → OpR sh n z ku f ls U.1.2.2 X r := fun fz ⟨z3, x1, x2, x3⟩ => ⟨z3, x1, x2, fz.trans x3⟩
        by_cases c11 : o = 11
        · rw [if_pos ((nIe (x := 11) 11 rfl (by omega) (by omega)).mpr c11), if_pos c11, (k.has hF (hu z1 q2) hm g2).1, cal_s]
          obtain ⟨z2, s1, s2, s3, s4, s5⟩ := k.nd (F := F) (hasC U t) (v := 4) (by omega) (by omega)
          have s1' : fn_X13_need F sh n z1 355 (bI (hasC U t)) 4 = some (z2, ()) := s1
          rw [s1', cal_s]
          unfold fn_X13_onLocal_B193
          cases e4 : hasC U t with
          | false =>
            have k' := s5 e4
            have b1 : ∀ b : Bool, fn_X13_onLocal_B198 F sh n 355 (nI a) (tL t) z2 (bI b) = some (z2, ()) := fun b => k'.b198e (by omega) ha t b
            refine ⟨z2, ?_, ⟨by decide, _, k'⟩, q2.trans s2⟩
            cases pl with
            | false => rw [if_pos (show bI false = 0 from rfl)]; exact b1 true
            | true =>
              have this' : fn_X13_isPointed F sh n z2 355 (nI a) 1 = some (z2, bI (lPt ls L a true)) := pt0 true z2 4 k'
              rw [if_neg (show ¬ bI true = 0 from one0), this', cal_s]
              cases lPt ls L a true with
              | false => rw [if_pos (show bI false = 0 from rfl)]; exact b1 true
              | true => rw [if_neg (show ¬ bI true = 0 from one0)]; exact b1 false
          | true =>
            have k' := s4 e4
            rw [nd_t, ok_b]
            have b1 := fun b => lift (q2.trans s2) (k'.b198 (F := F) hF ha g2 b)
            cases pl with
            | false => rw [if_pos (show bI false = 0 from rfl)]; exact b1 true
            | true =>
              have this' : fn_X13_isPointed F sh n z2 355 (nI a) 1 = some (z2, bI (lPt ls L a true)) := pt0 true z2 0 k'
              rw [if_neg (show ¬ bI true = 0 from one0), this', cal_s]
              cases lPt ls L a true with
              | false => rw [if_pos (show bI false = 0 from rfl)]; exact b1 true
              | true => rw [if_neg (show ¬ bI true = 0 from one0)]; exact b1 false
        · rw [if_neg (fun q => c11 ((nIe (x := 11) 11 rfl (by omega) (by omega)).mp q)), if_neg c11]
          by_cases c12 : o = 12
          · rw [if_pos ((nIe (x := 12) 12 rfl (by omega) (by omega)).mpr c12), if_pos c12]
            unfold fn_X13_onLocal_B244
            have b1 := fun b => lift q2 (k.b249 (F := F) hF ha g2 b)
            cases pl with
            | false => rw [if_pos (show bI false = 0 from rfl)]; exact b1 true
            | true =>
              have this' : fn_X13_isPointed F sh n z1 355 (nI a) 0 = some (z1, bI (lPt ls L a false)) := pt0 false z1 0 k
              rw [if_neg (show ¬ bI true = 0 from one0), this', cal_s]
              cases lPt ls L a false with
              | false => rw [if_pos (show bI false = 0 from rfl)]; exact b1 true
              | true => rw [if_neg (show ¬ bI true = 0 from one0)]; exact b1 false
          · rw [if_neg (fun q => c12 ((nIe (x := 12) 12 rfl (by omega) (by omega)).mp q)), if_neg c12]
            obtain ⟨z2, s1, s2, s3, s4, s5⟩ := k.nd (F := F) pl (v := 3) (by omega) (by omega)
            have s1' : fn_X13_need F sh n z1 355 (bI pl) 3 = some (z2, ()) := s1
            rw [s1', cal_s]
            have o45 : o = 14 ∨ o = 15 := by omega
            cases e3 : pl with
            | false =>
              have k' := s5 e3
              refine ⟨z2, ?_, ⟨by decide, _, k'⟩, q2.trans s2⟩
              have b1 : ∀ b : Bool, fn_X13_onLocal_B324 F sh n 355 (nI a) (nI o) (tL t) z2 (bI b) = some (z2, ()) := fun b => by
                unfold fn_X13_onLocal_B324
                rw [pt0 b z2 3 k', cal_s]
                cases lPt ls L a b with
                | false => rw [if_pos (show bI false = 0 from rfl)]; exact k'.b335e hF (by omega) g2 (nI o) true
                | true => rw [if_neg (show ¬ bI true = 0 from one0)]; exact k'.b335e hF (by omega) g2 (nI o) false
              by_cases c14 : nI o = 14
              · rw [if_pos c14]; exact b1 true
              · rw [if_neg c14]; exact b1 false
            | true =>
              have k' := s4 e3
              have np : isR t = false := by rw [e3] at ep; simpa using ep
              rw [nd_t, ok_b]
              have b1 : ∀ b : Bool, OpR sh n z ku f ls U.1.2.2 (fn_X13_onLocal_B324 F sh n 355 (nI a) (nI o) (tL t) z2 (bI b)) (nd_ (!lPt ls L a b) 6 >>= fun _ => lPush ((if o = 14 then 8 else 9) :: t, bitO a, false) L) := fun b => by
                unfold fn_X13_onLocal_B324
                rw [pt0 b z2 0 k', cal_s]
                have b2 := fun g => lift (q2.trans s2) (k'.b335 (F := F) (a := a) hF (by omega) g2 np (h6 np) o45 g)
                cases lPt ls L a b with
                | false => rw [if_pos (show bI false = 0 from rfl)]; exact b2 true
                | true => rw [if_neg (show ¬ bI true = 0 from one0)]; exact b2 false
              rcases o45 with e | e
              · subst e; exact b1 true
              · subst e; exact b1 false
  unfold fn_X13_onLocal
  rw [h'.o13, grd_true, a1.2.2 355 3 356 rfl, lnk_s, ok 356 102 rfl (by omega), grd_true, ca, g1, lt_t, isRefR_t hF g2.1, cal_s]
  cases e : isR (ls.getD a []) with
  | false =>
    rw [if_pos (show bI false = 0 from rfl)]
    rw [e] at main
    exact main
  | true =>
    rw [if_neg (show ¬ bI true = 0 from one0)]
    rw [e] at main
    exact main
end
