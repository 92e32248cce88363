/-! THE CLASS'S LOOKER: coming again, coming back -/
section
variable {F n : Nat} {sh : Nat → Nat × Nat} {z z' : St} {kp f w ns : Nat} {ls : List Ty} {L M : Lks} {U : Md} {R : Nat → Option Lc} {tg : Nat → Bool} {ln : Nat}
theorem jn127 {t : Nat} (ht : t < 1024) : ∀ r p g z1, Lay sh n z1 → p + r = 40 → r < g → ∃ z', fn_X3_join_L127 F sh n 62 (nI t) (nI (40 * t)) g z1 (nI p) = some (z', ()) ∧ z'.1 = z1.1 ∧ z'.2.2 = z1.2.2 ∧ (∀ k, k ≠ 72 → z'.2.1 k = z1.2.1 k) ∧ ∀ j, z'.2.1 72 j = if 40 * t + p ≤ j ∧ j < 40 * t + 40 then (if ob (z1.2.1 70 t) (j - 40 * t) = true then z1.2.1 72 j ||| z1.2.1 67 (j - 40 * t) else 0) else z1.2.1 72 j := by
  intro r
  induction r with
  | zero =>
    intro p g z1 hL ep hg
    obtain ⟨g, rfl⟩ : ∃ q, g = q + 1 := ⟨g - 1, by omega⟩
    have ep' : p = 40 := by omega
    subst ep'
    conv => enter [1, z', 1, 1]; unfold fn_X3_join_L127
    rw [if_pos (show (40 : Int32) ≤ nI 40 by decide)]
    exact ⟨z1, rfl, rfl, rfl, fun _ _ => rfl, fun j => by rw [if_neg (by omega)]⟩
  | succ r ih =>
    intro p g z1 hL ep hg
    obtain ⟨g, rfl⟩ : ∃ q, g = q + 1 := ⟨g - 1, by omega⟩
    obtain ⟨okT, cT⟩ := okt hL ht
    have ok72 : okA sh n 72 102 (nI (40 * t + p)) = true := by rw [lay_a hL 72 102 40960 (by omega) rfl]; exact okI_nI (by omega) (by omega)
    have ok67 : okA sh n 67 102 (nI p) = true := by rw [lay_a hL 67 102 40 (by omega) rfl]; exact okI_nI (by omega) (by omega)
    have cp : (nI p).toNatClampNeg = p := nI_clamp (by omega)
    have c72 : (nI (40 * t + p)).toNatClampNeg = 40 * t + p := nI_clamp (by omega)
    have nx : ∀ v, v = (if ob (z1.2.1 70 t) p = true then z1.2.1 72 (40 * t + p) ||| z1.2.1 67 p else 0) → ∃ z', fn_X3_join_B186 F sh n 72 (nI (40 * t)) (nI p) (fun z9 q3 => fn_X3_join_L127 F sh n 62 (nI t) (nI (40 * t)) g z9 q3) z1 v = some (z', ()) ∧ z'.1 = z1.1 ∧ z'.2.2 = z1.2.2 ∧ (∀ k, k ≠ 72 → z'.2.1 k = z1.2.1 k) ∧ ∀ j, z'.2.1 72 j = if 40 * t + p ≤ j ∧ j < 40 * t + 40 then (if ob (z1.2.1 70 t) (j - 40 * t) = true then z1.2.1 72 j ||| z1.2.1 67 (j - 40 * t) else 0) else z1.2.1 72 j := fun v ev => by
      obtain ⟨z', s1, s2, s3, s4, s5⟩ := ih (p + 1) g (sl z1 72 (40 * t + p) v) (hL.of rfl) (by omega) (by omega)
      refine ⟨z', ?_, s2, s3, fun k hk => (s4 k hk).trans (by funext j; rw [sl_ok hk]), fun j => ?_⟩
      · unfold fn_X3_join_B186
        rw [v40', ok72, grd_true, lt_t, c72, nI_1]
        exact s1
      · have e70 : (sl z1 72 (40 * t + p) v).2.1 70 t = z1.2.1 70 t := by rw [sl_ok (show (70 : Nat) ≠ 72 by omega)]
        have e67 : ∀ j, (sl z1 72 (40 * t + p) v).2.1 67 j = z1.2.1 67 j := fun j => by rw [sl_ok (show (67 : Nat) ≠ 72 by omega)]
        rw [s5 j, e70, e67]
        by_cases c : j = 40 * t + p
        · have cp' : 40 * t + p - 40 * t = p := by omega
          rw [c, cp', if_neg (show ¬ (40 * t + (p + 1) ≤ 40 * t + p ∧ 40 * t + p < 40 * t + 40) by omega), if_pos (show 40 * t + p ≤ 40 * t + p ∧ 40 * t + p < 40 * t + 40 by omega), sl_ss, ev]
        · rw [sl_oj c]
          by_cases d : 40 * t + (p + 1) ≤ j ∧ j < 40 * t + 40
          · rw [if_pos d, if_pos (show 40 * t + p ≤ j ∧ j < 40 * t + 40 by omega)]
          · rw [if_neg d, if_neg (show ¬ (40 * t + p ≤ j ∧ j < 40 * t + 40) by omega)]
    conv => enter [1, z', 1, 1]; unfold fn_X3_join_L127
    rw [if_neg (fun q => by have := (nIge (x := 40) 40 rfl (by omega) (by omega)).mp q; omega), hL.2.2 62 19 70 rfl, lnk_s, okT 70 102 rfl (by omega), grd_true, cT]
    cases e : ob (z1.2.1 70 t) p with
    | false =>
      rw [if_pos ((ob_ush (by omega)).mpr e)]
      unfold fn_X3_join_B153
      rw [hL.2.2 62 21 72 rfl, lnk_s, if_pos rfl]
      have := nx 0 (by rw [e]; rfl)
      exact this
    | true =>
      rw [if_neg (fun q => by have := (ob_ush (by omega)).mp q; rw [e] at this; exact absurd this (by simp))]
      unfold fn_X3_join_B153
      rw [hL.2.2 62 21 72 rfl, lnk_s, if_neg (show ¬ (1 : Int32) = 0 by decide), lnk_s, v40', ok72, grd_true, hL.2.2 62 10 67 rfl, lnk_s, ok67, grd_true, cp, c72]
      have := nx _ (by rw [e, if_pos rfl])
      exact this
theorem jn88 (hF : 300 ≤ F) {t : Nat} (ht : t < 1024) (hL : Lay sh n z) : ∃ z', fn_X3_join_B88 F sh n 62 (nI t) (nI (40 * t)) z = some (z', ()) ∧ z'.1 = z.1 ∧ z'.2.2 = z.2.2 ∧ (∀ k, k < 70 ∨ 72 < k → z'.2.1 k = z.2.1 k) ∧ (∀ j, z'.2.1 70 j = if j = t then z.2.1 70 t &&& z.2.1 62 12 else z.2.1 70 j) ∧ (∀ j, z'.2.1 71 j = if j = t then (z.2.1 71 t ||| z.2.1 62 13) &&& (z.2.1 70 t &&& z.2.1 62 12) else z.2.1 71 j) ∧ ∀ j, z'.2.1 72 j = if 40 * t ≤ j ∧ j < 40 * t + 40 then (if ob (z.2.1 70 t &&& z.2.1 62 12) (j - 40 * t) = true then z.2.1 72 j ||| z.2.1 67 (j - 40 * t) else 0) else z.2.1 72 j := by
  obtain ⟨okT, cT⟩ := okt hL ht
  obtain ⟨z', s1, s2, s3, s4, s5⟩ := jn127 (F := F) (sh := sh) (n := n) ht 40 0 F (sl (sl z 70 t (z.2.1 70 t &&& z.2.1 62 12)) 71 t ((z.2.1 71 t ||| z.2.1 62 13) &&& (z.2.1 70 t &&& z.2.1 62 12))) (hL.of rfl) (by omega) (by omega)
  have s1' : fn_X3_join_L127 F sh n 62 (nI t) (nI (40 * t)) F (sl (sl z 70 t (z.2.1 70 t &&& z.2.1 62 12)) 71 t ((z.2.1 71 t ||| z.2.1 62 13) &&& (z.2.1 70 t &&& z.2.1 62 12))) 0 = _ := s1
  have ev : (sl (sl z 70 t (z.2.1 70 t &&& z.2.1 62 12)) 71 t ((z.2.1 71 t ||| z.2.1 62 13) &&& (z.2.1 70 t &&& z.2.1 62 12))).2.1 70 t = z.2.1 70 t &&& z.2.1 62 12 := by rw [sl_ok (by omega), sl_ss]
  refine ⟨z', ?_, s2, s3, fun k hk => (s4 k (by omega)).trans (by funext j; rw [sl_ok (by omega), sl_ok (by omega)]), fun j => ?_, fun j => ?_, fun j => ?_⟩
  · unfold fn_X3_join_B88
    rw [hL.2.2 62 19 70 rfl, lnk_s, okT 70 102 rfl (by omega), grd_true, grd_true, lt_t, cT, sl_3, hL.2.2 62 20 71 rfl, lnk_s, lnk_s, okT 71 102 rfl (by omega), grd_true, hL.2.2 62 19 70 rfl, lnk_s, okT 70 102 rfl (by omega), grd_true, grd_true, lt_t, sl_ss, sl_ok (show (71 : Nat) ≠ 70 by omega), sl_ok (show (62 : Nat) ≠ 70 by omega)]
    exact s1'
  · rw [s4 70 (by omega)]
    by_cases c : j = t
    · subst c; rw [if_pos rfl]; exact ev
    · rw [if_neg c, sl_ok (by omega), sl_oj c]
  · rw [s4 71 (by omega)]
    by_cases c : j = t
    · subst c; rw [if_pos rfl, sl_ss]
    · rw [if_neg c, sl_oj c, sl_ok (by omega)]
  · rw [s5 j, ev, sl_ok (by omega), sl_ok (by omega), sl_ok (by omega), sl_ok (by omega)]
    rfl
/-- what coming comes to -/
def CmC (ln : Nat) (sh : Nat → Nat × Nat) (n : Nat) (z : St) (kp f : Nat) (ls : List Ty) (ns : Nat) (tg : Nat → Bool) (L : Lks) : Px (Nat → Option Lc) → Prop
  | .ok R => CK sh n z kp f ls ns L ∧ RcC ln z ls.length tg R
  | .error w => 0 < w ∧ CB sh n z kp f w
theorem CK.join1 (hF : 300 ≤ F) (h : CK sh n z kp f ls ns L) (hd : DrO z U ls) (P : RcC ln z ls.length tg R) {t : Nat} (ht : t < 1024) (htl : t < ln) (hg : tg t = true) {Q : Lc} (hR : R t = some Q) : ∃ z', fn_X3_join F sh n z 62 (nI t) = some (z', ()) ∧ CmC ln sh n z' kp f ls ns tg L (nd_ ((List.range ls.length).all (mgB U ls Q L.2)) 9 >>= fun _ => .ok (setR R t (mgO Q L.2))) ∧ FrJc z z' := by
  obtain ⟨okT, cT⟩ := okt h.1 ht
  obtain ⟨r69, rk⟩ := (P t htl).2 hg
  rw [hR] at r69
  obtain ⟨k1, k2⟩ := rk Q hR
  have L1 := h.1
  have fjOf : ∀ z1 z2 : St, z2.1 = z1.1 → z2.2.2 = z1.2.2 → (∀ k, k < 70 ∨ 72 < k → z2.2.1 k = z1.2.1 k) → FrJc z1 z2 := fun z1 z2 a b c => ⟨b, fun k p q => ⟨by rw [a], c k (by omega)⟩, fun j _ => by rw [a], c 62 (by omega)⟩
  have cond : ((z.2.1 62 12 ^^^ z.2.1 70 t) &&& (z.2.1 62 11 ^^^ (-1)) = 0) ↔ (List.range ls.length).all (mgB U ls Q L.2) = true := by
    have hx : ∀ k, ob (z.2.1 62 12 ^^^ z.2.1 70 t) k = (ob (z.2.1 62 12) k ^^ ob (z.2.1 70 t) k) := fun k => by unfold ob; rw [Int64.toBitVec_xor, BitVec.getLsbD_xor]
    have c0 := h.2.2.2.2.2.1.1
    rw [ob_zero, List.all_eq_true]
    constructor
    · intro q k hk
      have hk' := List.mem_range.mp hk
      have := q k
      rw [ob_and, ob_not, hx, decide_eq_true (show k < 64 by omega), Bool.true_and, (h.bits k).1, (k1 k).1, hd k hk', decide_eq_true hk', Bool.true_and, Bool.true_and] at this
      unfold mgB
      cases x1 : L.2.1 k <;> cases x2 : Q.1 k <;> cases x3 : hasD U (ls.getD k []) <;> rw [x1, x2, x3] at this <;> simp_all
    · intro q k
      rw [ob_and, ob_not, hx, (h.bits k).1, (k1 k).1]
      by_cases c : k < ls.length
      · have := q k (List.mem_range.mpr c)
        unfold mgB at this
        rw [hd k c, decide_eq_true c, Bool.true_and, Bool.true_and]
        cases x1 : L.2.1 k <;> cases x2 : Q.1 k <;> cases x3 : hasD U (ls.getD k []) <;> rw [x1, x2, x3] at this <;> simp_all
      · rw [decide_eq_false c]; rfl
  have hd0 : fn_X3_join F sh n z 62 (nI t) = if (z.2.1 62 12 ^^^ z.2.1 70 t) &&& (z.2.1 62 11 ^^^ (-1)) = 0 then fn_X3_join_B88 F sh n 62 (nI t) (nI (40 * t)) z else cal (fn_X3_fail F sh n z 62 9) (fun z_43 _ => fn_X3_join_B88 F sh n 62 (nI t) (nI (40 * t)) z_43) := by
    unfold fn_X3_join
    rw [x40 ht, lt_t, h.cb.o3, grd_true, L1.2.2 62 18 69 rfl, lnk_s, okT 69 103 rfl (by omega), grd_true, cT, r69, if_neg (show ¬ bI (some Q).isSome = 0 from one0), L1.2.2 62 19 70 rfl, lnk_s, okT 70 102 rfl (by omega), grd_true]
  rw [hd0]
  cases eb : (List.range ls.length).all (mgB U ls Q L.2) with
  | false =>
    obtain ⟨z1, q1, q2, q3⟩ := CB.failJ (F := F) h.cb (v := 9) (by omega)
    have q1' : fn_X3_fail F sh n z 62 9 = some (z1, ()) := q1
    obtain ⟨z2, s1, s2, s3, s4, _⟩ := jn88 (F := F) (sh := sh) (n := n) (z := z1) hF ht q2.1
    rw [if_neg (fun q => by have := cond.mp q; rw [eb] at this; cases this), q1', cal_s, s1]
    have f2 := fjOf z1 z2 s2 s3 s4
    exact ⟨z2, rfl, ⟨by decide, q2.fj f2 (by rw [s2])⟩, q3.trans f2⟩
  | true =>
    obtain ⟨z2, s1, s2, s3, s4, s5, s6, s7⟩ := jn88 (F := F) (sh := sh) (n := n) (z := z) hF ht L1
    have f2 := fjOf z z2 s2 s3 s4
    rw [if_pos (cond.mpr eb), s1]
    refine ⟨z2, rfl, ⟨h.fj f2 (by rw [s2]), fun t' ht' => ⟨by rw [s2]; exact (P t' ht').1, fun hg' => ?_⟩⟩, f2⟩
    have p := (P t' ht').2 hg'
    unfold setR
    rw [s2]
    by_cases c : t' = t
    · subst c
      rw [if_pos rfl]
      refine ⟨r69, fun Q' q => ?_⟩
      cases q
      refine ⟨fun k => ?_, fun k hk => ?_⟩
      · rw [s5, s6, if_pos rfl, if_pos rfl, ob_and, ob_and, ob_or, ob_and, (k1 k).1, (k1 k).2, (h.bits k).1, (h.bits k).2]
        show _ = (decide (k < ls.length) && (Q.1 k && L.2.1 k)) ∧ _ = (decide (k < ls.length) && (Q.1 k && L.2.1 k) && (Q.1 k && L.2.1 k && (Q.2.2 k || L.2.2.2 k)))
        cases decide (k < ls.length) <;> cases Q.1 k <;> cases L.2.1 k <;> cases Q.2.2 k <;> cases L.2.2.2 k <;> exact ⟨rfl, rfl⟩
      · rw [s7, if_pos (by omega), show 40 * t' + k - 40 * t' = k by omega, ob_and, (k1 k).1, (h.bits k).1, k2 k hk, h.2.2.2.2.2.2.2 k hk]
        show _ = if (decide (k < ls.length) && (Q.1 k && L.2.1 k)) = true then (if Q.1 k && L.2.1 k then Q.2.1 k ||| L.2.2.1 k else 0) else 0
        cases decide (k < ls.length) <;> cases Q.1 k <;> cases L.2.1 k <;> rfl
    · rw [if_neg c]
      refine ⟨p.1, fun Q' q => ?_⟩
      obtain ⟨p1, p2⟩ := p.2 Q' q
      refine ⟨fun k => ?_, fun k hk => ?_⟩
      · rw [s5, s6, if_neg c, if_neg c]; exact p1 k
      · rw [s7, if_neg (by omega)]; exact p2 k hk
theorem CK.comeBack (hF : 300 ≤ F) (h : CK sh n z kp f ls ns L) (hd : DrO z U ls) (P : RcC ln z ls.length tg R) {t : Nat} (ht : t < 1024) (htl : t < ln) (hg : tg t = true) {Q : Lc} (hR : R t = some Q) : ∃ z', fn_X3_comeBack F sh n z 62 (nI t) = some (z', ()) ∧ CmC ln sh n z' kp f ls ns tg L (nd_ ((List.range ls.length).all (bkO U ls Q L.2)) 9 >>= fun _ => .ok R) ∧ FrJc z z' := by
  obtain ⟨okT, cT⟩ := okt h.1 ht
  obtain ⟨r69, rk⟩ := (P t htl).2 hg
  obtain ⟨k1, k2⟩ := rk Q hR
  have L1 := h.1
  have c0 := h.2.2.2.2.2.1.1
  have c3 := h.2.2.2.2.2.2.2
  obtain ⟨z1, q1, q2, q3⟩ := CB.failJ (F := F) h.cb (v := 9) (by omega)
  have q1' : fn_X3_fail F sh n z 62 9 = some (z1, ()) := q1
  -- the end
  have fin : ∀ b : Bool, ∃ z', (if bI b = 0 then cal (fn_X3_fail F sh n z 62 9) (fun z_12 _ => some (z_12, ())) else some (z, ())) = some (z', ()) ∧ CmC ln sh n z' kp f ls ns tg L (nd_ b 9 >>= fun _ => .ok R) ∧ FrJc z z' := fun b => by
    cases b with
    | false => rw [if_pos (show bI false = 0 from rfl), q1', cal_s]; exact ⟨z1, rfl, ⟨by decide, q2⟩, q3⟩
    | true => rw [if_neg (show ¬ bI true = 0 from one0)]; exact ⟨z, rfl, ⟨h, P⟩, FrJc.rfl'⟩
  have lp : ∀ r p g (b : Bool), p + r = 40 → r < g → fn_X3_comeBack_L84 F sh n 62 (nI t) g z (bI b) (nI p) = (if bI (b && (List.range' p r).all (fun k => !(decide (k < ls.length) && Q.1 k) || ((if (decide (k < ls.length) && L.2.1 k) = true then L.2.2.1 k else 0) &&& (Q.2.1 k ^^^ (-1)) == 0))) = 0 then cal (fn_X3_fail F sh n z 62 9) (fun z_12 _ => some (z_12, ())) else some (z, ())) := by
    intro r
    induction r with
    | zero =>
      intro p g b ep hg'
      obtain ⟨g, rfl⟩ : ∃ q, g = q + 1 := ⟨g - 1, by omega⟩
      have ep' : p = 40 := by omega
      subst ep'
      conv => lhs; unfold fn_X3_comeBack_L84
      rw [if_pos (show (40 : Int32) ≤ nI 40 by decide), List.range'_zero, List.all_nil, Bool.and_true]
    | succ r ih =>
      intro p g b ep hg'
      obtain ⟨g, rfl⟩ : ∃ q, g = q + 1 := ⟨g - 1, by omega⟩
      have ok72 : okA sh n 72 102 (nI (40 * t + p)) = true := by rw [lay_a L1 72 102 40960 (by omega) rfl]; exact okI_nI (by omega) (by omega)
      have ok67 : okA sh n 67 102 (nI p) = true := by rw [lay_a L1 67 102 40 (by omega) rfl]; exact okI_nI (by omega) (by omega)
      have cp : (nI p).toNatClampNeg = p := nI_clamp (by omega)
      have c72 : (nI (40 * t + p)).toNatClampNeg = 40 * t + p := nI_clamp (by omega)
      conv => lhs; unfold fn_X3_comeBack_L84
      rw [if_neg (fun q => by have := (nIge (x := 40) 40 rfl (by omega) (by omega)).mp q; omega), L1.2.2 62 19 70 rfl, lnk_s, okT 70 102 rfl (by omega), grd_true, cT, rng_a]
      unfold fn_X3_comeBack_B110 fn_X3_comeBack_B146
      rw [if_pos rfl, if_neg (show ¬ (1 : Int32) = 0 by decide), x40 ht, v40', L1.2.2 62 10 67 rfl, lnk_s, ok67, grd_true, L1.2.2 62 21 72 rfl, lnk_s, ok72, grd_true, cp, c72, c3 p (by omega), k2 p (by omega), nI_1]
      cases e : (decide (p < ls.length) && Q.1 p) with
      | false =>
        have eo : ob (z.2.1 70 t) p = false := by rw [(k1 p).1]; exact e
        rw [if_pos ((ob_ush (by omega)).mpr eo), Bool.not_false, Bool.true_or, Bool.true_and]
        exact ih (p + 1) g b (by omega) (by omega)
      | true =>
        have eo : ob (z.2.1 70 t) p = true := by rw [(k1 p).1]; exact e
        rw [if_neg (fun q => by have := (ob_ush (by omega)).mp q; rw [eo] at this; exact absurd this (by simp)), if_pos rfl, Bool.not_true, Bool.false_or]
        by_cases d : (if (decide (p < ls.length) && L.2.1 p) = true then L.2.2.1 p else 0) &&& (Q.2.1 p ^^^ (-1)) = 0
        · rw [if_pos d, beq_iff_eq.mpr d, Bool.true_and]
          exact ih (p + 1) g b (by omega) (by omega)
        · rw [if_neg d, beq_eq_false_iff_ne.mpr d, Bool.false_and, Bool.and_false]
          have := ih (p + 1) g false (by omega) (by omega)
          rw [Bool.false_and] at this
          exact this
  have e40 : ∀ b : Bool, fn_X3_comeBack_B81 F sh n 62 (nI t) z (bI b) = _ := fun b => lp 40 0 F b (by omega) (by omega)
  -- the words
  generalize eA : (List.range' 0 40).all (fun k => !(decide (k < ls.length) && Q.1 k) || ((if (decide (k < ls.length) && L.2.1 k) = true then L.2.2.1 k else 0) &&& (Q.2.1 k ^^^ (-1)) == 0)) = A at *
  have ex : fn_X3_comeBack F sh n z 62 (nI t) = fn_X3_comeBack_B81 F sh n 62 (nI t) z (bI (decide (z.2.1 70 t &&& (z.2.1 62 12 ^^^ (-1)) = 0) && (decide (z.2.1 62 12 &&& (z.2.1 70 t ^^^ (-1)) &&& (z.2.1 62 11 ^^^ (-1)) = 0) && decide (z.2.1 62 13 &&& z.2.1 70 t &&& (z.2.1 71 t ^^^ (-1)) = 0)))) := by
    unfold fn_X3_comeBack fn_X3_comeBack_B80
    rw [h.cb.o3, grd_true, L1.2.2 62 19 70 rfl, lnk_s, okT 70 102 rfl (by omega), grd_true, cT, lnk_s, okT 70 102 rfl (by omega), grd_true, lnk_s, okT 70 102 rfl (by omega), grd_true, L1.2.2 62 20 71 rfl, lnk_s, okT 71 102 rfl (by omega), grd_true]
    by_cases d1 : z.2.1 70 t &&& (z.2.1 62 12 ^^^ (-1)) = 0
    · rw [if_pos d1, decide_eq_true d1, Bool.true_and]
      by_cases d2 : z.2.1 62 12 &&& (z.2.1 70 t ^^^ (-1)) &&& (z.2.1 62 11 ^^^ (-1)) = 0
      · rw [if_pos d2, decide_eq_true d2, Bool.true_and]
        by_cases d3 : z.2.1 62 13 &&& z.2.1 70 t &&& (z.2.1 71 t ^^^ (-1)) = 0
        · rw [if_pos d3, decide_eq_true d3]; rfl
        · rw [if_neg d3, decide_eq_false d3]; rfl
      · rw [if_neg d2, decide_eq_false d2]; rfl
    · rw [if_neg d1, decide_eq_false d1]; rfl
  rw [ex, e40]
  have key : (decide (z.2.1 70 t &&& (z.2.1 62 12 ^^^ (-1)) = 0) && (decide (z.2.1 62 12 &&& (z.2.1 70 t ^^^ (-1)) &&& (z.2.1 62 11 ^^^ (-1)) = 0) && decide (z.2.1 62 13 &&& z.2.1 70 t &&& (z.2.1 71 t ^^^ (-1)) = 0)) && A) = (List.range ls.length).all (bkO U ls Q L.2) := by
    rw [Bool.eq_iff_iff, Bool.and_eq_true, Bool.and_eq_true, Bool.and_eq_true, decide_eq_true_eq, decide_eq_true_eq, decide_eq_true_eq, ob_zero, ob_zero, ob_zero, ← eA, List.all_eq_true, List.all_eq_true]
    constructor
    · rintro ⟨⟨g1, g2, g3⟩, g4⟩ k hk
      have hk' := List.mem_range.mp hk
      have a1 := g1 k
      have a2 := g2 k
      have a3 := g3 k
      have a4 := g4 k (by rw [← List.range_eq_range']; exact List.mem_range.mpr (by omega))
      rw [ob_and, ob_not, decide_eq_true (show k < 64 by omega), Bool.true_and, (h.bits k).1, (k1 k).1, decide_eq_true hk', Bool.true_and, Bool.true_and] at a1
      rw [ob_and, ob_and, ob_not, ob_not, decide_eq_true (show k < 64 by omega), Bool.true_and, Bool.true_and, (h.bits k).1, (k1 k).1, hd k hk', decide_eq_true hk', Bool.true_and, Bool.true_and] at a2
      rw [ob_and, ob_and, ob_not, decide_eq_true (show k < 64 by omega), Bool.true_and, (h.bits k).2, (k1 k).1, (k1 k).2, decide_eq_true hk', Bool.true_and, Bool.true_and] at a3
      rw [decide_eq_true hk', Bool.true_and, Bool.true_and] at a4
      unfold bkO
      cases x1 : L.2.1 k <;> cases x2 : Q.1 k <;> cases x3 : hasD U (ls.getD k []) <;> cases x4 : L.2.2.2 k <;> cases x5 : Q.2.2 k <;> rw [x1, x2] at a1 a4 <;> rw [x1, x2, x3] at a2 <;> rw [x1, x2, x4, x5] at a3 <;> simp_all
    · intro g
      refine ⟨⟨fun k => ?_, fun k => ?_, fun k => ?_⟩, fun k hk => ?_⟩
      · rw [ob_and, ob_not, (h.bits k).1, (k1 k).1]
        by_cases c : k < ls.length
        · have := g k (List.mem_range.mpr c)
          unfold bkO at this
          rw [decide_eq_true c, Bool.true_and, Bool.true_and]
          cases x1 : L.2.1 k <;> cases x2 : Q.1 k <;> rw [x1, x2] at this <;> simp_all
        · rw [decide_eq_false c]; rfl
      · rw [ob_and, ob_and, ob_not, ob_not, (h.bits k).1, (k1 k).1]
        by_cases c : k < ls.length
        · have := g k (List.mem_range.mpr c)
          unfold bkO at this
          rw [hd k c, decide_eq_true c, Bool.true_and, Bool.true_and]
          cases x1 : L.2.1 k <;> cases x2 : Q.1 k <;> cases x3 : hasD U (ls.getD k []) <;> rw [x1, x2, x3] at this <;> simp_all
        · rw [decide_eq_false c]; rfl
      · rw [ob_and, ob_and, ob_not, (h.bits k).2, (k1 k).1, (k1 k).2]
        by_cases c : k < ls.length
        · have := g k (List.mem_range.mpr c)
          unfold bkO at this
          rw [decide_eq_true c, Bool.true_and, Bool.true_and]
          cases x1 : L.2.1 k <;> cases x2 : Q.1 k <;> cases x4 : L.2.2.2 k <;> cases x5 : Q.2.2 k <;> rw [x1, x2, x4, x5] at this <;> simp_all
        · rw [decide_eq_false c]; rfl
      · by_cases c : k < ls.length
        · have := g k (List.mem_range.mpr c)
          unfold bkO at this
          rw [decide_eq_true c, Bool.true_and, Bool.true_and]
          cases x1 : L.2.1 k <;> cases x2 : Q.1 k <;> rw [x1, x2] at this <;> simp_all
        · rw [decide_eq_false c]; rfl
  rw [key]
  exact fin _
end
