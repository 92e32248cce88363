/-! THE CLASS'S LOOKER: what is live -/
theorem any_lt {m M : Nat} (h : m ≤ M) (P : Nat → Bool) : (List.range M).any (fun k => decide (k < m) && P k) = (List.range m).any P := by
  rw [Bool.eq_iff_iff, List.any_eq_true, List.any_eq_true]
  constructor
  · rintro ⟨k, hk, q⟩
    have : k < m ∧ P k = true := by simpa using q
    exact ⟨k, List.mem_range.mpr this.1, this.2⟩
  · rintro ⟨k, hk, q⟩
    have := List.mem_range.mp hk
    exact ⟨k, List.mem_range.mpr (by omega), by rw [decide_eq_true this, q]; rfl⟩
def lvB (ls : List Ty) (L : Lks) (x : Int64) (wr : Bool) : Bool := (List.range L.1.1).any (fun k => mtB (L.1.2 k).2.1 x && (!wr || hdT (L.1.2 k).1 == 9)) || (List.range ls.length).any (fun k => L.2.1 k && mtB (L.2.2.1 k) x && (!wr || hdT (ls.getD k []) == 9))
section
variable {F n : Nat} {sh : Nat → Nat × Nat} {z z' : St} {kp f ns : Nat} {ls : List Ty} {L : Lks}
theorem writesC_t (hF : 300 ≤ F) {t : Ty} (h : TB t) : fn_X3_writes F sh n z (tL t) = some (z, bI (hdT t == 9)) := by
  have h9 := h.2.1.2
  unfold fn_X3_writes
  rw [(shiftC_t hF h).2, cal_s]
  by_cases c9 : hdT t = 9
  · rw [if_pos ((nIe (x := 9) 9 rfl (by omega) (by omega)).mpr c9), c9]; rfl
  · rw [if_neg (fun q => c9 ((nIe (x := 9) 9 rfl (by omega) (by omega)).mp q)), beq_eq_false_iff_ne.mpr c9]; rfl
theorem CK.live (hF : 300 ≤ F) (h : CK sh n z kp f ls ns L) (x : Int64) (wr : Bool) : fn_X3_isLive F sh n z 62 x (bI wr) = some (z, bI (lvB ls L x wr)) := by
  have h' := h
  obtain ⟨a1, a2, a3, a4, ⟨b1, b2, b3⟩, ⟨c0, c1⟩, c2, c3⟩ := h
  have l54 : ∀ r p g, p + r = 40 → r < g → fn_X3_isLive_L54 F sh n 62 x (bI wr) g z (nI p) = some (z, bI ((List.range' p r).any (fun k => decide (k < ls.length) && (L.2.1 k && mtB (L.2.2.1 k) x && (!wr || hdT (ls.getD k []) == 9))))) := by
    intro r
    induction r with
    | zero =>
      intro p g ep hg
      obtain ⟨g, rfl⟩ : ∃ q, g = q + 1 := ⟨g - 1, by omega⟩
      have ep' : p = 40 := by omega
      subst ep'
      unfold fn_X3_isLive_L54
      rw [if_pos (show (40 : Int32) ≤ nI 40 by decide)]
      rfl
    | succ r ih =>
      intro p g ep hg
      obtain ⟨g, rfl⟩ : ∃ q, g = q + 1 := ⟨g - 1, by omega⟩
      have ok : ∀ k c, shF k = (c, 40) → k < 513 → okA sh n k c (nI p) = true := fun k c ee hk => by rw [lay_a a1 k c 40 hk ee]; exact okI_nI (by omega) (by omega)
      have cp : (nI p).toNatClampNeg = p := nI_clamp (by omega)
      have nx : fn_X3_isLive_B94 F sh n (nI p) (fun z9 q4 => fn_X3_isLive_L54 F sh n 62 x (bI wr) g z9 q4) z = some (z, bI ((List.range' (p + 1) r).any (fun k => decide (k < ls.length) && (L.2.1 k && mtB (L.2.2.1 k) x && (!wr || hdT (ls.getD k []) == 9))))) := by
        unfold fn_X3_isLive_B94
        rw [nI_1]
        exact ih (p + 1) g (by omega) (by omega)
      conv => lhs; unfold fn_X3_isLive_L54
      rw [if_neg (fun q => by have := (nIge (x := 40) 40 rfl (by omega) (by omega)).mp q; omega), a1.2.2 62 10 67 rfl, lnk_s, ok 67 102 rfl (by omega), grd_true, cp, c3 p (by omega), rng_s]
      by_cases c : (decide (p < ls.length) && L.2.1 p) = true
      · have cc : p < ls.length ∧ L.2.1 p = true := by simpa using c
        rw [if_pos c, decide_eq_true cc.1, cc.2, Bool.true_and, Bool.true_and]
        cases m : mtB (L.2.2.1 p) x with
        | false => rw [if_pos (mtB_0.mpr m), nx]; rfl
        | true =>
          rw [if_neg (fun q => by have := mtB_0.mp q; rw [m] at this; exact absurd this (by simp)), Bool.true_and]
          cases wr with
          | false => rw [if_pos (show bI false = 0 from rfl)]; rfl
          | true =>
            obtain ⟨t1, t2⟩ := c1 p cc.1
            rw [if_neg (show ¬ bI true = 0 from one0), a1.2.2 62 9 66 rfl, lnk_s, ok 66 102 rfl (by omega), grd_true, t1, writesC_t hF t2.1, cal_s]
            cases e : (hdT (ls.getD p []) == 9) with
            | false => rw [if_pos (show bI false = 0 from rfl), nx]; rfl
            | true => rw [if_neg (show ¬ bI true = 0 from one0)]; rfl
      · rw [if_neg c, if_pos (show (0 : Int64) &&& x = 0 from Int64.zero_and), nx]
        have e : (decide (p < ls.length) && (L.2.1 p && mtB (L.2.2.1 p) x && (!wr || hdT (ls.getD p []) == 9))) = false := by
          cases d1 : decide (p < ls.length) with
          | false => rfl
          | true =>
            cases d2 : L.2.1 p with
            | false => rfl
            | true => rw [d1, d2] at c; exact absurd rfl c
        rw [e, Bool.false_or]
  have l3 : ∀ r p g, p + r = L.1.1 → r < g → fn_X3_isLive_L3 F sh n 62 x (bI wr) g z (nI p) = some (z, bI ((List.range' p r).any (fun k => mtB (L.1.2 k).2.1 x && (!wr || hdT (L.1.2 k).1 == 9)) || (List.range ls.length).any (fun k => L.2.1 k && mtB (L.2.2.1 k) x && (!wr || hdT (ls.getD k []) == 9)))) := by
    intro r
    induction r with
    | zero =>
      intro p g ep hg
      obtain ⟨g, rfl⟩ : ∃ q, g = q + 1 := ⟨g - 1, by omega⟩
      have e := l54 40 0 F (by omega) (by omega)
      have e' : fn_X3_isLive_L54 F sh n 62 x (bI wr) F z 0 = _ := e
      unfold fn_X3_isLive_L3
      rw [h'.cb.o3, grd_true, b1, if_pos ((nI_leI (by omega) (by omega)).mpr (by omega)), e', ← List.range_eq_range', any_lt c0, List.range'_zero, List.any_nil, Bool.false_or]
    | succ r ih =>
      intro p g ep hg
      obtain ⟨g, rfl⟩ : ∃ q, g = q + 1 := ⟨g - 1, by omega⟩
      have ok : ∀ k c, shF k = (c, 64) → k < 513 → okA sh n k c (nI p) = true := fun k c ee hk => by rw [lay_a a1 k c 64 hk ee]; exact okI_nI (by omega) (by omega)
      have cp : (nI p).toNatClampNeg = p := nI_clamp (by omega)
      obtain ⟨s1, s2, s3, s4, s5⟩ := b3 p (by omega)
      have nx := ih (p + 1) g (by omega) (by omega)
      conv => lhs; unfold fn_X3_isLive_L3
      rw [h'.cb.o3, grd_true, b1, if_neg (fun q => by have := (nI_leI (by omega) (by omega)).mp q; omega), a1.2.2 62 6 64 rfl, lnk_s, ok 64 102 rfl (by omega), grd_true, cp, s2, rng_s]
      unfold fn_X3_isLive_B45
      rw [nI_1]
      cases m : mtB (L.1.2 p).2.1 x with
      | false => rw [if_pos (mtB_0.mpr m)]; exact nx
      | true =>
        rw [if_neg (fun q => by have := mtB_0.mp q; rw [m] at this; exact absurd this (by simp)), Bool.true_and]
        cases wr with
        | false => rw [if_pos (show bI false = 0 from rfl)]; rfl
        | true =>
          rw [if_neg (show ¬ bI true = 0 from one0), a1.2.2 62 5 63 rfl, lnk_s, ok 63 102 rfl (by omega), grd_true, s1, writesC_t hF s4.1, cal_s]
          cases e : (hdT (L.1.2 p).1 == 9) with
          | false => rw [if_pos (show bI false = 0 from rfl)]; exact nx
          | true => rw [if_neg (show ¬ bI true = 0 from one0)]; rfl
  unfold fn_X3_isLive lvB
  have e := l3 L.1.1 0 F (by omega) (by omega)
  rw [← List.range_eq_range'] at e
  exact e
end
