/-! THE CLASS'S LOOKER: a local is set -/
theorem ob_bitd {k : Nat} (hk : k < 64) (j : Nat) : ob (bitO k) j = decide (k = j) := by
  have e : ob (bitO k) j = Nat.testBit (N (bitO k)) j := rfl
  rw [e, N_bitO hk, Nat.testBit_two_pow]
theorem ob_set {x : Int64} {k : Nat} (hk : k < 64) (j : Nat) : ob (x ||| bitO k) j = (ob x j || decide (k = j)) := by rw [ob_or, ob_bitd hk]
theorem ob_clr {x : Int64} {k : Nat} (hk : k < 64) (j : Nat) : ob (x &&& (bitO k ^^^ (-1))) j = (ob x j && !decide (k = j)) := by
  by_cases c : j < 64
  · have hm : ob (-1) j = true := by
      have : ∀ b, b < 64 → ob (-1) b = true := by decide
      exact this j c
    have hx : ob (bitO k ^^^ (-1)) j = (ob (bitO k) j ^^ ob (-1) j) := by unfold ob; rw [Int64.toBitVec_xor, BitVec.getLsbD_xor]
    rw [ob_and, hx, hm, ob_bitd hk, Bool.xor_true]
  · rw [ob_64 (by omega), ob_64 (x := x) (by omega)]; rfl
section
variable {F n : Nat} {sh : Nat → Nat × Nat} {z z' : St} {kp f ns : Nat} {ls : List Ty} {L : Lks}
theorem CK.setC (h : CK sh n z kp f ls ns L) {k : Nat} (hk : k < ls.length) (t : Bool) (o : Int64) (i : Bool) (ht : t = false → o = 0 ∧ i = false) : CK sh n (sl (sl (sl z 67 k o) 62 13 (if i = true then z.2.1 62 13 ||| bitO k else z.2.1 62 13 &&& (bitO k ^^^ (-1)))) 62 12 (if t = true then z.2.1 62 12 ||| bitO k else z.2.1 62 12 &&& (bitO k ^^^ (-1)))) kp f ls ns (lSetL L k t o i) ∧ FrQc z (sl (sl (sl z 67 k o) 62 13 (if i = true then z.2.1 62 13 ||| bitO k else z.2.1 62 13 &&& (bitO k ^^^ (-1)))) 62 12 (if t = true then z.2.1 62 12 ||| bitO k else z.2.1 62 12 &&& (bitO k ^^^ (-1)))) := by
  obtain ⟨a1, a2, a3, a4, ⟨b1, b2, b3⟩, ⟨c0, c1⟩, c2, c3⟩ := h
  have k64 : k < 64 := by omega
  have bt : ∀ (x : Int64) (b : Bool) (j : Nat), ob (if b = true then x ||| bitO k else x &&& (bitO k ^^^ (-1))) j = if j = k then b else ob x j := fun x b j => by
    cases b with
    | true =>
      rw [if_pos rfl, ob_set k64]
      by_cases c : j = k
      · subst c; simp
      · rw [if_neg c, decide_eq_false (fun q => c q.symm), Bool.or_false]
    | false =>
      rw [if_neg (by simp), ob_clr k64]
      by_cases c : j = k
      · subst c; simp
      · rw [if_neg c, decide_eq_false (fun q => c q.symm)]; simp
  refine ⟨⟨a1.of rfl, a2, a3, a4, ⟨b1, b2, fun j hj => by rw [sl_ok (by omega), sl_ok (by omega), sl_ok (by omega), sl_ok (by omega), sl_ok (by omega), sl_ok (by omega)]; exact b3 j hj⟩, ⟨c0, fun j hj => by rw [sl_ok (by omega), sl_ok (by omega), sl_ok (by omega)]; exact c1 j hj⟩, fun j => ?_, fun j hj => ?_⟩, ((FrQc.sl (.inr (.inr (.inr rfl)))).trans (FrQc.sl (.inl ⟨rfl, by omega⟩))).trans (FrQc.sl (.inl ⟨rfl, by omega⟩))⟩
  · obtain ⟨d1, d2⟩ := c2 j
    rw [sl_ss, sl_oj (by omega), sl_ss, bt, bt]
    show _ = (decide (j < ls.length) && (if j = k then t else L.2.1 j)) ∧ _ = (decide (j < ls.length) && (if j = k then t else L.2.1 j) && (if j = k then i else L.2.2.2 j))
    by_cases c : j = k
    · subst c
      rw [if_pos rfl, if_pos rfl, if_pos rfl, if_pos rfl, decide_eq_true hk]
      refine ⟨by simp, ?_⟩
      cases t with
      | true => simp
      | false => rw [(ht rfl).2]; rfl
    · rw [if_neg c, if_neg c, if_neg c, if_neg c]; exact ⟨d1, d2⟩
  · rw [sl_ok (by omega), sl_ok (by omega)]
    show _ = if (decide (j < ls.length) && (if j = k then t else L.2.1 j)) = true then (if j = k then o else L.2.2.1 j) else 0
    by_cases c : j = k
    · subst c
      rw [sl_ss, if_pos rfl, if_pos rfl, decide_eq_true hk, Bool.true_and]
      cases t with
      | true => rw [if_pos rfl]
      | false => rw [if_neg (by simp)]; exact (ht rfl).1
    · rw [sl_oj c, if_neg c, if_neg c]; exact c3 j hj
end
