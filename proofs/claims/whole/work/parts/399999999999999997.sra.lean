/-! A MODULE AS BYTES: FnO of a picture that was judged -/
section
variable {b : Nat → Nat} {len : Nat} {M : MP}
theorem numB_1 (q : Nat) : numB b q 1 = lN (b q) := by
  show 256 * (0 : Int64) + lN (b (q + 0)) = _
  rw [Int64.mul_zero, Int64.zero_add, Nat.add_zero]
theorem numB_2 (q : Nat) : numB b q 2 = lN (shB b q) := by
  show 256 * numB b q 1 + lN (b (q + 1)) = _
  rw [numB_1]
  show Int64.ofNat 256 * Int64.ofNat (b q) + Int64.ofNat (b (q + 1)) = Int64.ofNat (256 * b q + b (q + 1))
  rw [← Int64.ofNat_mul, ← Int64.ofNat_add]
theorem op_one : ∀ o, o < 60 → ((11 ≤ o ∧ o ≤ 15) ∨ (21 ≤ o ∧ o ≤ 23) ∨ (47 ≤ o ∧ o ≤ 51) ∨ (53 ≤ o ∧ o ≤ 58)) → opB o = 1 ∧ twoO o = false := by decide
theorem op_two : ∀ o, o < 60 → (o = 16 ∨ o = 17 ∨ o = 52) → opB o = 2 ∧ twoO o = true := by decide
theorem op_jmp : ∀ o, o < 60 → (2 ≤ o ∧ o < 5) → opB o = 2 ∧ twoO o = false := by decide
theorem op_59 : ∀ o, o < 60 → 53 ≤ o → twoO o = false := by decide
theorem jIs_n {own all fns els loc many : Nat} {fds : Nat → Nat} : ∀ (ss : List Nat), jIs b own all fds fns els loc many ss = none → ∀ s, s ∈ ss → jIn b own all fds fns els loc many s = none
  | [], _, s, hs => by cases hs
  | u :: ss, h, s, hs => by
    obtain ⟨j1, j2⟩ := orE_0 h
    rcases List.mem_cons.mp hs with q | q
    · rw [q]; exact j1
    · exact jIs_n ss j2 s q
theorem if_n {c : Prop} [Decidable c] {e : Nat × Nat} (h : (if c then some e else none : Flt) = none) : ¬ c := fun q => by rw [if_pos q] at h; cases h
theorem jOwn_n {own all p : Nat} (h : jOwn b own all p = none) : b p < own := by
  unfold jOwn at h
  by_cases c1 : all ≤ b p
  · rw [if_pos c1] at h; cases h
  rw [if_neg c1] at h
  have := if_n h
  omega
theorem fnO_of (hb : ∀ q, q < len → b q < 256) (hp : PicOk b len M) (hj : jM b M = none) {f : Nat} (hf : f < M.2.2.2.2.length) : FnO (mdOf b M) f := by
  have hp' := hp
  obtain ⟨⟨p1, p2⟩, ⟨p3, p4⟩, ⟨p5, p6⟩, ⟨p7, p8⟩, p9, p10⟩ := hp
  obtain ⟨j1, j2⟩ := orE_0 hj
  have q := p10 _ (getD_m (d := dGP) hf)
  have jg := jGs_n _ j2 _ (getD_m (d := dGP) hf)
  obtain ⟨l1, l2, l3⟩ := jGp_l hb q jg
  have ji := jIs_n _ (orE_0 jg).2
  obtain ⟨q1, q2, q3, ⟨q4, q5⟩, ⟨q6, q7⟩, q8, ⟨q9, q10⟩, q11⟩ := q
  have e : fnOf (mdOf b M) f = (b (M.2.2.2.2.getD f dGP).1, (M.2.2.2.2.getD f dGP).2.2.1, (M.2.2.2.2.getD f dGP).2.2.2.1, (M.2.2.2.2.getD f dGP).2.2.2.2.1) := by show (if f < M.2.2.2.2.length then _ else _ : Fn) = _; rw [if_pos hf]
  have el : locOf (mdOf b M) f = (M.2.2.2.2.getD f dGP).2.2.1 ++ (M.2.2.2.2.getD f dGP).2.2.2.2.1 := by unfold locOf; rw [e]
  have ec : codeOf (mdOf b M) f = (M.2.2.2.2.getD f dGP).2.2.2.2.2.map (fun p => (b p, opX b p, opY b p)) := rfl
  have fl : ∀ a, a < M.1.length → (fdsOf (mdOf b M) a).length = fdM M a := fun a ha => rfl
  refine ⟨fun k hk => ?_, ?_, ⟨by rw [ec, List.length_map]; exact q10, fun i o x y hi => ?_⟩, by rw [ec, List.length_map]; omega⟩
  · have m := getD_m (d := []) hk
    rw [el] at m ⊢
    rcases List.mem_append.mp m with m | m
    · exact l1 _ m
    · exact l3 _ m
  · rw [el, List.length_append]; have := q8.2.2.1; omega
  · rw [ec, List.getElem?_map] at hi
    have il : i < (M.2.2.2.2.getD f dGP).2.2.2.2.2.length := by
      by_cases c : i < (M.2.2.2.2.getD f dGP).2.2.2.2.2.length
      · exact c
      · rw [List.getElem?_eq_none (by omega)] at hi; cases hi
    rw [getD_s (d := 0) il] at hi
    generalize ep : (M.2.2.2.2.getD f dGP).2.2.2.2.2.getD i 0 = p at hi
    have hi' : some (b p, opX b p, opY b p) = some (o, x, y) := hi
    cases hi'
    have pm : p ∈ (M.2.2.2.2.getD f dGP).2.2.2.2.2 := by rw [← ep]; exact getD_m il
    obtain ⟨i1, i2, i3, i4⟩ := q11 p pm
    have jp := ji p pm
    unfold jIn at jp
    have o60 : b p < 60 := by omega
    -- operands
    have x1 : ((11 ≤ b p ∧ b p ≤ 15) ∨ (21 ≤ b p ∧ b p ≤ 23) ∨ (47 ≤ b p ∧ b p ≤ 51) ∨ (53 ≤ b p ∧ b p ≤ 58)) ∨ (b p = 16 ∨ b p = 17 ∨ b p = 52) → opX b p = lN (b (p + 1)) ∧ b (p + 1) < 256 := fun hh => by
      rcases hh with hh | hh
      · obtain ⟨e1, e2⟩ := op_one (b p) o60 hh
        unfold opX
        rw [e2, if_neg (by simp), e1, numB_1]
        exact ⟨rfl, hb _ (by omega)⟩
      · obtain ⟨e1, e2⟩ := op_two (b p) o60 hh
        unfold opX
        rw [e2, if_pos rfl, e1]
        exact ⟨numB_1 _, hb _ (by omega)⟩
    have y1 : (b p = 16 ∨ b p = 17 ∨ b p = 52) → opY b p = lN (b (p + 2)) ∧ b (p + 2) < 256 := fun hh => by
      obtain ⟨e1, e2⟩ := op_two (b p) o60 hh
      unfold opY
      rw [e2, if_pos rfl, e1]
      exact ⟨numB_1 _, hb _ (by omega)⟩
    have xj : (2 ≤ b p ∧ b p < 5) → opX b p = lN (shB b (p + 1)) ∧ shB b (p + 1) < 65536 := fun hh => by
      obtain ⟨e1, e2⟩ := op_jmp (b p) o60 hh
      unfold opX
      rw [e2, if_neg (by simp), e1, numB_2]
      refine ⟨rfl, ?_⟩
      have a1 := hb (p + 1) (by omega)
      have a2 := hb (p + 1 + 1) (by omega)
      unfold shB
      omega
    have tI : ∀ v, v < 65536 → (lN v).toInt.toNat = v := fun v hv => lN_tI (by omega)
    refine ⟨⟨i2, fun a1 a2 => ?_, fun hh => ?_, fun hh => ?_, fun a1 a2 => ?_, fun hh => ?_, fun a1 a2 => ?_⟩, fun hh => ?_, fun hh => ?_, fun a1 a2 => ?_⟩
    · obtain ⟨x2, x3⟩ := x1 (by omega)
      rw [if_neg (by omega), if_pos (by omega)] at jp
      have := if_n jp
      rw [x2, tI _ (by omega), el, List.length_append]
      omega
    · obtain ⟨x2, x3⟩ := x1 (by omega)
      obtain ⟨y2, y3⟩ := y1 (by omega)
      rw [if_neg (by omega), if_neg (by omega), if_pos hh] at jp
      obtain ⟨k1, k2⟩ := orE_0 jp
      have k3 := jOwn_n k1
      have k4 := if_n k2
      rw [x2, y2, tI _ (by omega), tI _ (by omega)]
      refine ⟨k3, ?_⟩
      rw [fl _ k3]; omega
    · obtain ⟨x2, x3⟩ := x1 (by omega)
      rw [if_neg (by omega), if_neg (by omega), if_neg (by omega), if_pos (by omega)] at jp
      rw [x2, tI _ (by omega)]
      exact jOwn_n jp
    · obtain ⟨x2, x3⟩ := x1 (by omega)
      rw [if_neg (by omega), if_neg (by omega), if_neg (by omega), if_pos (by omega)] at jp
      rw [x2, tI _ (by omega)]
      exact jOwn_n jp
    · obtain ⟨x2, x3⟩ := x1 (by omega)
      rw [if_neg (by omega), if_neg (by omega), if_neg (by omega), if_neg (by omega), if_pos hh] at jp
      have := if_n jp
      rw [x2, tI _ (by omega)]
      show b (p + 1) < M.2.2.2.2.length + M.2.2.1.length
      omega
    · obtain ⟨x2, x3⟩ := x1 (by omega)
      rw [if_neg (by omega), if_neg (by omega), if_neg (by omega), if_neg (by omega), if_neg (by omega), if_pos (by omega)] at jp
      have := if_n jp
      rw [x2, tI _ (by omega)]
      show b (p + 1) < (M.2.2.2.1.map (fun e => e.2)).length
      rw [List.length_map]; omega
    · by_cases c : 2 ≤ b p ∧ b p < 5
      · obtain ⟨x2, x3⟩ := xj c
        rw [x2, tI _ x3, lN_i32]
      · obtain ⟨x2, x3⟩ := x1 (by unfold namesA at hh; omega)
        rw [x2, tI _ (by omega), lN_i32]
    · by_cases c : b p = 16 ∨ b p = 17 ∨ b p = 52
      · obtain ⟨y2, y3⟩ := y1 c
        rw [y2, tI _ (by omega), lN_i32]
        exact ⟨rfl, y3⟩
      · have e0 : opY b p = 0 := by unfold opY; rw [op_59 (b p) o60 (by omega), if_neg (by simp)]
        rw [e0]
        exact ⟨by decide, by decide⟩
    · obtain ⟨x2, x3⟩ := xj ⟨a1, a2⟩
      rw [if_pos (by omega)] at jp
      have := if_n jp
      rw [x2, tI _ x3, ec, List.length_map]
      omega
end
