/-! MISFITS, THE REFERENCE: lists of types; the first foreign function that is not there -/
theorem fbad_n (p : Nat → Bool) : ∀ r i, (fbad p r i).isNone = true ↔ ∀ k, i ≤ k → k < i + r → p k = true
  | 0, i => ⟨fun _ k h1 h2 => absurd h2 (by omega), fun _ => rfl⟩
  | r + 1, i => by
    unfold fbad
    by_cases c : p i = true
    · rw [if_pos c, fbad_n p r (i + 1)]
      constructor
      · intro h k h1 h2
        by_cases d : k = i
        · subst d; exact c
        · exact h k (by omega) (by omega)
      · intro h k h1 h2; exact h k (by omega) (by omega)
    · rw [if_neg c]
      constructor
      · intro h; cases h
      · intro h; exact absurd (h i (by omega) (by omega)) c
/-- one list against another -/
def lsB (U U' : Md) (l l' : List Ty) : Bool := decide (l.length = l'.length) && (fbad (fun k => tySb U U' (l.getD k []) (l'.getD k [])) l.length 0).isNone
theorem sameLs_e (U : Md) (a : Nat) (U' : Md) (f : Nat) : sameLs U a U' f = (lsB U U' (tksOf U a) (tksOf U' f) && lsB U U' (gvsOf U a) (gvsOf U' f)) := by
  unfold sameLs lsB
  by_cases c1 : (tksOf U a).length = (tksOf U' f).length
  · by_cases c2 : (gvsOf U a).length = (gvsOf U' f).length
    · rw [decide_eq_true c1, decide_eq_true c2, Bool.true_and, Bool.true_and, Bool.true_and, Bool.true_and]
      rw [Bool.eq_iff_iff, Bool.and_eq_true, fbad_n, fbad_n, fbad_n]
      unfold tgl
      constructor
      · intro h
        refine ⟨fun k _ hk => ?_, fun k _ hk => ?_⟩
        · have := h k (by omega) (by rw [List.length_append]; omega)
          rw [ap_l (by omega), ap_l (by omega)] at this
          exact this
        · have := h ((tksOf U a).length + k) (by omega) (by rw [List.length_append]; omega)
          rw [ap_r] at this
          rw [c1, ap_r] at this
          exact this
      · intro h k _ hk
        rw [List.length_append] at hk
        by_cases d : k < (tksOf U a).length
        · rw [ap_l d, ap_l (by omega)]
          exact h.1 k (by omega) (by omega)
        · have e : k = (tksOf U a).length + (k - (tksOf U a).length) := by omega
          have q := h.2 (k - (tksOf U a).length) (by omega) (by omega)
          rw [e, ap_r]
          rw [c1, ap_r]
          rw [c1] at q
          exact q
    · rw [decide_eq_false c2, Bool.false_and, Bool.false_and, Bool.and_false, Bool.and_false]
  · rw [decide_eq_false c1, Bool.false_and, Bool.false_and, Bool.false_and]
section
variable {F n : Nat} {sh : Nat → Nat × Nat} {z z' : St} {ku len : Nat} {b : Nat → Nat} {M : MP} {ws : Nat → Md} {wc : Nat} {dp : Nat → Nat → Nat}
theorem RWo.list (hF : 300 ≤ F) (h : RWo sh n z ws wc dp) (hu : UM sh n z ku b len M) {hm a f l : Nat} {il : Int32} {ls ls' : List Ty} {T : Ty → Ty → Bool} (h1 : fn_X16_many F sh n z ku (nI a) il = some (z, nI ls.length)) (h2 : fn_X18_manyThere F sh n z 337 (nI hm) (nI f) il = some (z, nI ls'.length)) (b1 : ls.length < 256) (b2 : ls'.length < 256) (h3 : ∀ k, k < ls.length → fn_X16_listed F sh n z ku (nI a) il (nI k) = some (z, tL (ls.getD k []))) (h4 : ∀ k, k < ls'.length → fn_X18_typeThere F sh n z 337 (nI hm) (nI f) il (nI k) = some (z, tL (ls'.getD k []))) (h5 : ∀ k, k < ls.length → k < ls'.length → fn_X18_isSame F sh n z 337 ku (tL (ls.getD k [])) (nI hm) (tL (ls'.getD k [])) = some (z, bI (T (ls.getD k []) (ls'.getD k [])))) : fn_X18_isSameList F sh n z 337 ku (nI a) (nI hm) (nI f) il = some (z, bI (decide (ls.length = ls'.length) && (fbad (fun k => T (ls.getD k []) (ls'.getD k [])) ls.length 0).isNone)) := by
  unfold fn_X18_isSameList fn_X18_isSameList_B28
  rw [hu.1.o, grd_true, h1, cal_s, (b_model h.1).1, grd_true, h2, cal_s]
  have z0 : ∀ r k g, k + r = ls.length → r < g + 1 → fn_X18_isSameList_L33 F sh n (nI ls.length) ku (nI a) il 337 (nI hm) (nI f) (g + 1) z 0 (nI k) = some (z, 0) := fun r k g _ _ => by
    unfold fn_X18_isSameList_L33
    rw [show okZ 0 = true from rfl, grd_true, if_pos (show (0 : Int32) = 0 from rfl), ite_self]
  by_cases c : ls.length = ls'.length
  · rw [if_pos (by rw [c]), decide_eq_true c, Bool.true_and]
    have lp : ∀ r k g, k + r = ls.length → r + 1 < g → fn_X18_isSameList_L33 F sh n (nI ls.length) ku (nI a) il 337 (nI hm) (nI f) g z 1 (nI k) = some (z, bI (fbad (fun k => T (ls.getD k []) (ls'.getD k [])) r k).isNone) := by
      intro r
      induction r with
      | zero =>
        intro k g ek hg
        obtain ⟨g, rfl⟩ : ∃ q, g = q + 1 := ⟨g - 1, by omega⟩
        unfold fn_X18_isSameList_L33
        rw [if_pos ((nI_leI (by omega) (by omega)).mpr (by omega)), show okZ 1 = true from rfl, grd_true]
        rfl
      | succ r ih =>
        intro k g ek hg
        obtain ⟨g, rfl⟩ : ∃ q, g = q + 1 := ⟨g - 1, by omega⟩
        unfold fn_X18_isSameList_L33 fbad
        rw [if_neg (fun y => by have := (nI_leI (by omega) (by omega)).mp y; omega), if_neg (by decide), h3 k (by omega), cal_s, h4 k (by omega), cal_s, h5 k (by omega) (by omega), cal_s, nI_1]
        cases e : T (ls.getD k []) (ls'.getD k []) with
        | false =>
          rw [if_neg (by simp), show bI false = 0 from rfl]
          obtain ⟨g, rfl⟩ : ∃ q, g = q + 1 := ⟨g - 1, by omega⟩
          rw [z0 r (k + 1) g (by omega) (by omega)]
          rfl
        | true =>
          rw [if_pos rfl, show bI true = 1 from rfl]
          exact ih (k + 1) g (by omega) (by omega)
    exact lp ls.length 0 F (by omega) (by omega)
  · rw [if_neg (fun y => c ((nI_eq (by omega) (by omega)).mp y)), decide_eq_false c, Bool.false_and]
    obtain ⟨g, rfl⟩ : ∃ q, F = q + 1 := ⟨F - 1, by omega⟩
    exact z0 ls.length 0 g (by omega) (by omega)
end
