/-! THE CLASS'S LOOKER: what is alone -/
theorem ob_ush {x : Int64} {b : Nat} (hb : b < 64) : ((((x.toUInt64 >>> ((nI b).toInt64.toUInt64 &&& Int64.toUInt64 63)).toInt64) &&& 1 : Int64) = 0) ↔ ob x b = false := by
  have en : ∀ y : Int64, N (y &&& 1) = N y % 2 := fun y => by
    rw [N_and, N_1, show (1 : Nat) = 2 ^ 1 - 1 from rfl, Nat.and_two_pow_sub_one_eq_mod]
  rw [N_eq0, en, N_ushK hb]
  have e : ob x b = Nat.testBit (N x) b := rfl
  rw [e, Nat.testBit_eq_decide_div_mod_eq, decide_eq_false_iff_not]
  omega
theorem all_lt {m M : Nat} (h : m ≤ M) (P : Nat → Bool) : (List.range M).all (fun k => !decide (k < m) || P k) = (List.range m).all P := by
  rw [Bool.eq_iff_iff, List.all_eq_true, List.all_eq_true]
  constructor
  · intro q k hk
    have hk' := List.mem_range.mp hk
    have := q k (List.mem_range.mpr (by omega))
    rw [decide_eq_true hk'] at this
    exact this
  · intro q k hk
    by_cases c : k < m
    · rw [decide_eq_true c, q k (List.mem_range.mpr c)]; rfl
    · rw [decide_eq_false c]; rfl
section
variable {F n : Nat} {sh : Nat → Nat × Nat} {z z' : St} {kp f ns : Nat} {ls : List Ty} {L : Lks}
theorem CK.sole (hF : 300 ≤ F) (h : CK sh n z kp f ls ns L) (x : Int64) : fn_X3_isSole F sh n z 62 x = some (z, bI (lSole ls L x)) := by
  have h' := h
  obtain ⟨a1, a2, a3, a4, ⟨b1, b2, b3⟩, ⟨c0, c1⟩, c2, c3⟩ := h
  have l54 : ∀ r p g, p + r = 40 → r < g → fn_X3_isSole_L54 F sh n 62 x g z (nI p) = some (z, bI ((List.range' p r).all (fun k => !decide (k < ls.length) || (!(L.2.1 k && mtB (L.2.2.1 k) x) || (hdT (ls.getD k []) == 9 && !L.2.2.2 k))))) := by
    intro r
    induction r with
    | zero =>
      intro p g ep hg
      obtain ⟨g, rfl⟩ : ∃ q, g = q + 1 := ⟨g - 1, by omega⟩
      have ep' : p = 40 := by omega
      subst ep'
      unfold fn_X3_isSole_L54
      rw [if_pos (show (40 : Int32) ≤ nI 40 by decide)]
      rfl
    | succ r ih =>
      intro p g ep hg
      obtain ⟨g, rfl⟩ : ∃ q, g = q + 1 := ⟨g - 1, by omega⟩
      have ok : ∀ k c, shF k = (c, 40) → k < 513 → okA sh n k c (nI p) = true := fun k c ee hk => by rw [lay_a a1 k c 40 hk ee]; exact okI_nI (by omega) (by omega)
      have cp : (nI p).toNatClampNeg = p := nI_clamp (by omega)
      have nx := ih (p + 1) g (by omega) (by omega)
      conv => lhs; unfold fn_X3_isSole_L54
      rw [if_neg (fun q => by have := (nIge (x := 40) 40 rfl (by omega) (by omega)).mp q; omega), a1.2.2 62 10 67 rfl, lnk_s, ok 67 102 rfl (by omega), grd_true, cp, c3 p (by omega), rng_a]
      unfold fn_X3_isSole_B100
      rw [nI_1]
      by_cases c : (decide (p < ls.length) && L.2.1 p) = true
      · have cc : p < ls.length ∧ L.2.1 p = true := by simpa using c
        have ei : ob (z.2.1 62 13) p = L.2.2.2 p := by rw [(c2 p).2, c, Bool.true_and]
        rw [if_pos c, decide_eq_true cc.1, cc.2, Bool.true_and]
        cases m : mtB (L.2.2.1 p) x with
        | false => rw [if_pos (mtB_0.mpr m)]; exact nx
        | true =>
          rw [if_neg (fun q => by have := mtB_0.mp q; rw [m] at this; exact absurd this (by simp))]
          cases i1 : L.2.2.2 p with
          | true =>
            rw [i1] at ei
            rw [if_neg (fun q => by have := (ob_ush (by omega)).mp q; rw [ei] at this; exact absurd this (by simp))]
            simp [bI]
          | false =>
            rw [i1] at ei
            obtain ⟨t1, t2⟩ := c1 p cc.1
            rw [if_pos ((ob_ush (by omega)).mpr ei), a1.2.2 62 9 66 rfl, lnk_s, ok 66 102 rfl (by omega), grd_true, t1, writesC_t hF t2.1, cal_s]
            cases e : (hdT (ls.getD p []) == 9) with
            | false => rw [if_pos (show bI false = 0 from rfl)]; rfl
            | true => rw [if_neg (show ¬ bI true = 0 from one0)]; exact nx
      · rw [if_neg c, if_pos (show (0 : Int64) &&& x = 0 from Int64.zero_and)]
        have e : (!decide (p < ls.length) || (!(L.2.1 p && mtB (L.2.2.1 p) x) || (hdT (ls.getD p []) == 9 && !L.2.2.2 p))) = true := by
          cases d1 : decide (p < ls.length) with
          | false => rfl
          | true =>
            cases d2 : L.2.1 p with
            | false => rfl
            | true => rw [d1, d2] at c; exact absurd rfl c
        rw [e, Bool.true_and]
        exact nx
  have l2 : ∀ r p g, p + r = L.1.1 → r < g → fn_X3_isSole_L2 F sh n 62 x g z (nI p) = some (z, bI ((List.range' p r).all (fun k => !mtB (L.1.2 k).2.1 x || (hdT (L.1.2 k).1 == 9 && !(L.1.2 k).2.2)) && (List.range ls.length).all (fun k => !(L.2.1 k && mtB (L.2.2.1 k) x) || (hdT (ls.getD k []) == 9 && !L.2.2.2 k)))) := by
    intro r
    induction r with
    | zero =>
      intro p g ep hg
      obtain ⟨g, rfl⟩ : ∃ q, g = q + 1 := ⟨g - 1, by omega⟩
      have e := l54 40 0 F (by omega) (by omega)
      have e' : fn_X3_isSole_L54 F sh n 62 x F z 0 = _ := e
      unfold fn_X3_isSole_L2
      rw [h'.cb.o3, grd_true, b1, if_pos ((nI_leI (by omega) (by omega)).mpr (by omega)), e', ← List.range_eq_range', all_lt c0, List.range'_zero, List.all_nil, Bool.true_and]
    | succ r ih =>
      intro p g ep hg
      obtain ⟨g, rfl⟩ : ∃ q, g = q + 1 := ⟨g - 1, by omega⟩
      have ok : ∀ k c, shF k = (c, 64) → k < 513 → okA sh n k c (nI p) = true := fun k c ee hk => by rw [lay_a a1 k c 64 hk ee]; exact okI_nI (by omega) (by omega)
      have cp : (nI p).toNatClampNeg = p := nI_clamp (by omega)
      obtain ⟨s1, s2, s3, s4, s5⟩ := b3 p (by omega)
      have nx := ih (p + 1) g (by omega) (by omega)
      conv => lhs; unfold fn_X3_isSole_L2
      rw [h'.cb.o3, grd_true, b1, if_neg (fun q => by have := (nI_leI (by omega) (by omega)).mp q; omega), a1.2.2 62 6 64 rfl, lnk_s, ok 64 102 rfl (by omega), grd_true, cp, s2, rng_a]
      unfold fn_X3_isSole_B46
      rw [nI_1]
      cases m : mtB (L.1.2 p).2.1 x with
      | false => rw [if_pos (mtB_0.mpr m)]; exact nx
      | true =>
        rw [if_neg (fun q => by have := mtB_0.mp q; rw [m] at this; exact absurd this (by simp)), a1.2.2 62 7 65 rfl, lnk_s, ok 65 103 rfl (by omega), grd_true, s3]
        cases i1 : (L.1.2 p).2.2 with
        | true =>
          rw [if_neg (show ¬ bI true = 0 from one0)]
          simp [bI]
        | false =>
          rw [if_pos (show bI false = 0 from rfl), a1.2.2 62 5 63 rfl, lnk_s, ok 63 102 rfl (by omega), grd_true, s1, writesC_t hF s4.1, cal_s]
          cases e : (hdT (L.1.2 p).1 == 9) with
          | false => rw [if_pos (show bI false = 0 from rfl)]; rfl
          | true => rw [if_neg (show ¬ bI true = 0 from one0)]; exact nx
  unfold fn_X3_isSole lSole
  have e := l2 L.1.1 0 F (by omega) (by omega)
  rw [← List.range_eq_range'] at e
  exact e
end
