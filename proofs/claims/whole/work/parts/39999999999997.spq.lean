/-! THE CLASS'S LOOKER: coming to an instruction -/
theorem scl_k {z : St} {k sp dp m j : Nat} {g : Nat → Int64} : (scl z k g sp dp m).2.1 k j = if dp ≤ j ∧ j < dp + m then g (sp + (j - dp)) else z.2.1 k j := by
  show (if k = k then va_cpy g (z.2.1 k) sp dp m j else z.2.1 k j) = _
  rw [if_pos rfl]
  rfl
theorem scl_o {z : St} {k k' sp dp m j : Nat} {g : Nat → Int64} (h : k' ≠ k) : (scl z k g sp dp m).2.1 k' j = z.2.1 k' j := by
  show (if k' = k then va_cpy g (z.2.1 k) sp dp m j else z.2.1 k' j) = _
  rw [if_neg h]
theorem scl_1 {z : St} {k sp dp m : Nat} {g : Nat → Int64} : (scl z k g sp dp m).1 = z.1 := rfl
/-- what is kept at an instruction -/
def KpC (z : St) (nl t : Nat) (Q : Lc) : Prop := (∀ k, ob (z.2.1 70 t) k = (decide (k < nl) && Q.1 k) ∧ ob (z.2.1 71 t) k = (decide (k < nl) && Q.1 k && Q.2.2 k)) ∧ ∀ k, k < 40 → z.2.1 72 (40 * t + k) = if (decide (k < nl) && Q.1 k) = true then Q.2.1 k else 0
def RcC (ln : Nat) (z : St) (nl : Nat) (tg : Nat → Bool) (R : Nat → Option Lc) : Prop := ∀ t, t < ln → z.1 68 t = bI (tg t) ∧ (tg t = true → z.1 69 t = bI (R t).isSome ∧ ∀ Q, R t = some Q → KpC z nl t Q)
def FrJc (z z' : St) : Prop := z'.2.2 = z.2.2 ∧ (∀ k, ¬ (69 ≤ k ∧ k ≤ 72) → k ≠ 62 → z'.1 k = z.1 k ∧ z'.2.1 k = z.2.1 k) ∧ (∀ j, j ≠ 1 → z'.1 62 j = z.1 62 j) ∧ z'.2.1 62 = z.2.1 62
theorem FrJc.rfl' {z : St} : FrJc z z := ⟨rfl, fun _ _ _ => ⟨rfl, rfl⟩, fun _ _ => rfl, rfl⟩
theorem FrJc.trans {z z' z'' : St} (f : FrJc z z') (g : FrJc z' z'') : FrJc z z'' := ⟨g.1.trans f.1, fun k a b => ⟨(g.2.1 k a b).1.trans (f.2.1 k a b).1, (g.2.1 k a b).2.trans (f.2.1 k a b).2⟩, fun j a => (g.2.2.1 j a).trans (f.2.2.1 j a), g.2.2.2.trans f.2.2.2⟩
theorem FrJc.sl {z : St} {k j : Nat} {v : Int64} (h : 70 ≤ k ∧ k ≤ 72) : FrJc z (sl z k j v) := ⟨rfl, fun i a b => ⟨rfl, by funext l; rw [sl_ok (by omega)]⟩, fun _ _ => rfl, by funext l; rw [sl_ok (by omega)]⟩
theorem FrJc.si {z : St} {j : Nat} {v : Int32} : FrJc z (si z 69 j v) := ⟨rfl, fun i a b => ⟨by funext l; rw [si_ok (by omega)], rfl⟩, fun l a => by rw [si_ok (by omega)], rfl⟩
theorem FrJc.scl {z : St} {g : Nat → Int64} {a b c : Nat} : FrJc z (scl z 72 g a b c) := ⟨rfl, fun i p q => ⟨rfl, by funext l; show (if i = 72 then va_cpy g (z.2.1 72) a b c l else z.2.1 i l) = _; rw [if_neg (by omega)]⟩, fun _ _ => rfl, by funext l; show (if 62 = 72 then va_cpy g (z.2.1 72) a b c l else z.2.1 62 l) = _; rw [if_neg (by omega)]⟩
section
variable {F n : Nat} {sh : Nat → Nat × Nat} {z z' : St} {kp f w ns : Nat} {ls : List Ty} {L M : Lks} {U : Md} {R : Nat → Option Lc} {tg : Nat → Bool} {ln : Nat}
theorem CB.fj (h : CB sh n z kp f w) (g : FrJc z z') (e : z'.1 62 1 = z.1 62 1) : CB sh n z' kp f w := by
  obtain ⟨a1, a2, a3, a4, d, a5, a6, a7⟩ := h
  exact ⟨a1.of g.1, by rw [g.1]; exact a2, by rw [g.2.2.1 3 (by omega)]; exact a3, ⟨by rw [e]; exact a4.1, a4.2⟩, d, by rw [g.2.2.1 8 (by omega)]; exact a5, a6, fun k hk => by rw [(g.2.1 65 (by omega) (by omega)).1]; exact a7 k hk⟩
theorem CK.fj (h : CK sh n z kp f ls ns L) (g : FrJc z z') (e : z'.1 62 1 = z.1 62 1) : CK sh n z' kp f ls ns L := by
  obtain ⟨a1, a2, a3, a4, ⟨b1, b2, b3⟩, ⟨c0, c1⟩, c2, c3⟩ := h
  exact ⟨a1.of g.1, by rw [g.1]; exact a2, by rw [g.2.2.1 3 (by omega)]; exact a3, by rw [e]; exact a4, ⟨by rw [g.2.2.1 8 (by omega)]; exact b1, b2, fun k hk => by rw [(g.2.1 63 (by omega) (by omega)).2, (g.2.1 64 (by omega) (by omega)).2, (g.2.1 65 (by omega) (by omega)).1]; exact b3 k hk⟩, ⟨c0, fun k hk => by rw [(g.2.1 66 (by omega) (by omega)).2]; exact c1 k hk⟩, fun k => by rw [g.2.2.2]; exact c2 k, fun k hk => by rw [(g.2.1 67 (by omega) (by omega)).2]; exact c3 k hk⟩
theorem CB.failJ (h : CB sh n z kp f 0) {v : Nat} (hv : v < 16) : ∃ z', fn_X3_fail F sh n z 62 (nI v) = some (z', ()) ∧ CB sh n z' kp f v ∧ FrJc z z' := by
  obtain ⟨z1, q1, q2, _⟩ := h.fail (F := F) hv
  refine ⟨z1, q1, q2, ?_⟩
  unfold fn_X3_fail at q1
  rw [h.o3, grd_true, h.2.2.2.1.1, if_pos (show nI 0 = 0 from rfl), lt_t] at q1
  cases q1
  exact ⟨rfl, fun i a b => ⟨by funext l; rw [si_ok (by omega)], rfl⟩, fun j hj => by rw [si_oj hj], rfl⟩
theorem x40 {t : Nat} (ht : t < 1024) : nI t * 40 = nI (40 * t) := by
  rw [show (40 : Int32) = nI 40 from rfl, pk_mul, Nat.mul_comm]
theorem v40' {t p : Nat} : nI (40 * t) + nI p = nI (40 * t + p) := nI_add _ _
theorem okt (hL : Lay sh n z) {t : Nat} (ht : t < 1024) : (∀ k c, shF k = (c, 1024) → k < 513 → okA sh n k c (nI t) = true) ∧ (nI t).toNatClampNeg = t := ⟨fun k c ee hk => by rw [lay_a hL k c 1024 hk ee]; exact okI_nI (by omega) (by omega), nI_clamp (by omega)⟩
/-- the words, bit by bit -/
theorem CK.bits (h : CK sh n z kp f ls ns L) (k : Nat) : ob (z.2.1 62 12) k = (decide (k < ls.length) && L.2.1 k) ∧ ob (z.2.1 62 13) k = (decide (k < ls.length) && L.2.1 k && L.2.2.2 k) := h.2.2.2.2.2.2.1 k
/-- it is met for the first time -/
theorem CK.join0 (h : CK sh n z kp f ls ns L) (P : RcC ln z ls.length tg R) {t : Nat} (ht : t < 1024) (htl : t < ln) (hg : tg t = true) (hR : R t = none) : ∃ z', fn_X3_join F sh n z 62 (nI t) = some (z', ()) ∧ CK sh n z' kp f ls ns L ∧ RcC ln z' ls.length tg (setR R t (nrm L.2)) ∧ FrJc z z' := by
  obtain ⟨okT, cT⟩ := okt h.1 ht
  have r69 := ((P t htl).2 hg).1
  rw [hR] at r69
  have L1 := h.1
  have o67 : okO sh n 67 102 = true := lay_o L1 67 102 40 (by decide) rfl
  have o72 : okO sh n 72 102 = true := lay_o L1 72 102 40960 (by decide) rfl
  have s67 : (sh 67).2 = 40 := by rw [L1.2.1 67 (by omega)]; rfl
  have s72 : (sh 72).2 = 40960 := by rw [L1.2.1 72 (by omega)]; rfl
  have c40 : (nI (40 * t)).toNatClampNeg = 40 * t := nI_clamp (by omega)
  have oc : okC 40 40960 0 (nI (40 * t)) 40 = true := by
    unfold okC
    rw [c40, show (0 : Int32).toNatClampNeg = 0 from rfl, show (40 : Int32).toNatClampNeg = 40 from rfl, decide_eq_true (show (0 : Int) ≤ (0 : Int32).toInt from by decide), decide_eq_true (show (0 : Int) ≤ (40 : Int32).toInt from by decide), decide_eq_true (show 0 + 40 ≤ 40 by omega), decide_eq_true (show 40 * t + 40 ≤ 40960 by omega), decide_eq_true (show (0 : Int) ≤ (nI (40 * t)).toInt from by rw [nI_toInt (by omega)]; omega)]
    rfl
  have n1 : vp_nar .boolean 1 = 1 := nar_bI true
  unfold fn_X3_join
  rw [x40 ht, lt_t, h.cb.o3, grd_true, L1.2.2 62 18 69 rfl, lnk_s, okT 69 103 rfl (by omega), grd_true, cT, r69, if_pos (show bI (none : Option Lc).isSome = 0 from rfl), lnk_s, okT 69 103 rfl (by omega), grd_true, lt_t, n1, si_3, L1.2.2 62 19 70 rfl, lnk_s, okT 70 102 rfl (by omega), grd_true, lt_t, si_2, sl_3, si_3, L1.2.2 62 20 71 rfl, lnk_s, okT 71 102 rfl (by omega), grd_true, lt_t, sl_ok (show (62 : Nat) ≠ 70 by omega), si_2, sl_3, sl_3, si_3, L1.2.2 62 10 67 rfl, lnk_s, L1.2.2 62 21 72 rfl, lnk_s, o72, grd_true, o67, grd_true, s67, s72, oc, grd_true, lt_t, c40, show (0 : Int32).toNatClampNeg = 0 from rfl, show (40 : Int32).toNatClampNeg = 40 from rfl]
  have fj : FrJc z (scl (sl (sl (si z 69 t 1) 70 t (z.2.1 62 12)) 71 t (z.2.1 62 13)) 72 ((sl (sl (si z 69 t 1) 70 t (z.2.1 62 12)) 71 t (z.2.1 62 13)).2.1 67) 0 (40 * t) 40) := ((FrJc.si.trans (FrJc.sl (by omega))).trans (FrJc.sl (by omega))).trans FrJc.scl
  have e1 : (scl (sl (sl (si z 69 t 1) 70 t (z.2.1 62 12)) 71 t (z.2.1 62 13)) 72 ((sl (sl (si z 69 t 1) 70 t (z.2.1 62 12)) 71 t (z.2.1 62 13)).2.1 67) 0 (40 * t) 40).1 62 1 = z.1 62 1 := by
    show (si z 69 t 1).1 62 1 = _
    rw [si_ok (by omega)]
  refine ⟨_, rfl, h.fj fj e1, fun t' ht' => ⟨?_, fun hg' => ?_⟩, fj⟩
  · show (si z 69 t 1).1 68 t' = _
    rw [si_ok (by omega)]; exact (P t' ht').1
  · have p := (P t' ht').2 hg'
    unfold setR
    have v72 : ∀ j, (scl (sl (sl (si z 69 t 1) 70 t (z.2.1 62 12)) 71 t (z.2.1 62 13)) 72 ((sl (sl (si z 69 t 1) 70 t (z.2.1 62 12)) 71 t (z.2.1 62 13)).2.1 67) 0 (40 * t) 40).2.1 72 j = if 40 * t ≤ j ∧ j < 40 * t + 40 then z.2.1 67 (0 + (j - 40 * t)) else z.2.1 72 j := fun j => by
      rw [scl_k, sl_ok (by omega), sl_ok (by omega), si_2, sl_ok (by omega), sl_ok (by omega), si_2]
    have v70 : ∀ j, (scl (sl (sl (si z 69 t 1) 70 t (z.2.1 62 12)) 71 t (z.2.1 62 13)) 72 ((sl (sl (si z 69 t 1) 70 t (z.2.1 62 12)) 71 t (z.2.1 62 13)).2.1 67) 0 (40 * t) 40).2.1 70 j = if j = t then z.2.1 62 12 else z.2.1 70 j := fun j => by
      rw [scl_o (by omega), sl_ok (by omega)]
      by_cases c : j = t
      · subst c; rw [if_pos rfl, sl_ss]
      · rw [if_neg c, sl_oj c, si_2]
    have v71 : ∀ j, (scl (sl (sl (si z 69 t 1) 70 t (z.2.1 62 12)) 71 t (z.2.1 62 13)) 72 ((sl (sl (si z 69 t 1) 70 t (z.2.1 62 12)) 71 t (z.2.1 62 13)).2.1 67) 0 (40 * t) 40).2.1 71 j = if j = t then z.2.1 62 13 else z.2.1 71 j := fun j => by
      rw [scl_o (by omega)]
      by_cases c : j = t
      · subst c; rw [if_pos rfl, sl_ss]
      · rw [if_neg c, sl_oj c, sl_ok (by omega), si_2]
    by_cases c : t' = t
    · subst c
      rw [if_pos rfl]
      refine ⟨?_, fun Q q => ?_⟩
      · show (si z 69 t' 1).1 69 t' = _
        rw [si_ss]; rfl
      · cases q
        refine ⟨fun k => ?_, fun k hk => ?_⟩
        · rw [v70, v71, if_pos rfl, if_pos rfl]
          obtain ⟨b1, b2⟩ := h.bits k
          refine ⟨b1, b2.trans ?_⟩
          show _ = (decide (k < ls.length) && L.2.1 k && (L.2.1 k && L.2.2.2 k))
          cases L.2.1 k <;> cases L.2.2.2 k <;> cases decide (k < ls.length) <;> rfl
        · rw [v72, if_pos (by omega), show 0 + (40 * t' + k - 40 * t') = k by omega, h.2.2.2.2.2.2.2 k hk]
          show _ = if (decide (k < ls.length) && L.2.1 k) = true then (if L.2.1 k then L.2.2.1 k else 0) else 0
          by_cases d : (decide (k < ls.length) && L.2.1 k) = true
          · have d2 : L.2.1 k = true := by rw [Bool.and_eq_true] at d; exact d.2
            rw [if_pos d, if_pos d, d2]; rfl
          · rw [if_neg d, if_neg d]
    · rw [if_neg c]
      refine ⟨?_, fun Q q => ?_⟩
      · show (si z 69 t 1).1 69 t' = _
        rw [si_oj c]; exact p.1
      · obtain ⟨p1, p2⟩ := p.2 Q q
        refine ⟨fun k => ?_, fun k hk => ?_⟩
        · rw [v70, v71, if_neg c, if_neg c]; exact p1 k
        · rw [v72, if_neg (by omega)]; exact p2 k hk
end
