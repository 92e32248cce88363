/-! BOTH LEDGERS: how many places more, how many fewer -/
theorem i32_le {a b : Nat} (ha : a < 2 ^ 30) (hb : b < 2 ^ 30) : (nI a - nI b ≤ 256) ↔ a ≤ 256 + b := by
  rw [Int32.le_iff_toInt_le, Int32.toInt_sub, nI_toInt (by omega), nI_toInt (by omega), show (256 : Int32).toInt = 256 from rfl, Int.bmod_eq_of_le (by omega) (by omega)]
  omega
theorem i32_p (c a b : Int32) : c + (1 - 0) + (a - b) = c + (a + 1 - b) := by
  rw [Int32.sub_eq_add_neg, Int32.sub_eq_add_neg, Int32.sub_eq_add_neg, Int32.neg_zero, Int32.add_zero]
  ac_rfl
theorem i32_m (c a b : Int32) : c + (0 - 1) + (a - b) = c + (a - (b + 1)) := by
  rw [Int32.sub_eq_add_neg, Int32.sub_eq_add_neg, Int32.sub_eq_add_neg, Int32.neg_add, Int32.sub_eq_add_neg, Int32.zero_add]
  ac_rfl
def nwC (ak : Nat → Ask) (ws : Nat → Int64 → Nat → Bool) : Nat → Nat → Nat
  | 0, _ => 0
  | r + 1, p => nwC ak ws r (p + 1) + if (ak p).1 ≠ 2 ∧ (ak p).2.2.2.2.1 = true ∧ ws (ak p).1 (ak p).2.1 (ak p).2.2.1 = false then 1 else 0
def nrC (ak : Nat → Ask) (ws : Nat → Int64 → Nat → Bool) : Nat → Nat → Nat
  | 0, _ => 0
  | r + 1, p => nrC ak ws r (p + 1) + if (ak p).1 = 3 ∧ (ak p).2.2.2.2.1 = false ∧ ws (ak p).1 (ak p).2.1 (ak p).2.2.1 = true then 1 else 0
theorem nwC_le {ak : Nat → Ask} {ws : Nat → Int64 → Nat → Bool} : ∀ r p, nwC ak ws r p ≤ r ∧ nrC ak ws r p ≤ r
  | 0, _ => ⟨Nat.le_refl _, Nat.le_refl _⟩
  | r + 1, p => by
    have := nwC_le (ak := ak) (ws := ws) r (p + 1)
    constructor
    · show nwC ak ws r (p + 1) + _ ≤ _
      split <;> omega
    · show nrC ak ws r (p + 1) + _ ≤ _
      split <;> omega
/-- what a place must be: an account, a module, a resource; an account that was there is there -/
def AkW (na : Nat) (ak : Nat → Ask) (ws : Nat → Int64 → Nat → Bool) : Prop := ∀ p, p < na → ((ak p).1 = 1 ∨ (ak p).1 = 2 ∨ (ak p).1 = 3) ∧ ((ak p).1 = 1 → ws (ak p).1 (ak p).2.1 (ak p).2.2.1 = true → (ak p).2.2.2.2.1 = true)
theorem CJ.akw {z : St} {na : Nat} {ak : Nat → Ask} {cn : Nat → Nat} {ws : Nat → Int64 → Nat → Bool} (h : CJ z na ak cn ws) : AkW na ak ws := fun p hp => by
  obtain ⟨k1, _, _, _, _, r6, _⟩ := h.2.2 p hp
  refine ⟨?_, fun q => (r6 q).2⟩
  rcases k1 with q | q | q
  · exact .inl q.1
  · exact .inr (.inl q.1)
  · exact .inr (.inr q.1)
section
variable {na : Nat} {ak : Nat → Ask} {ws : Nat → Int64 → Nat → Bool}
theorem st_c (hA : AkW na ak ws) {p : Nat} (hp : p < na) (h2 : (ak p).1 ≠ 2) (r : Nat) (c : Int32) : c + (bI (ak p).2.2.2.2.1 - bI (ws (ak p).1 (ak p).2.1 (ak p).2.2.1)) + (nI (nwC ak ws r (p + 1)) - nI (nrC ak ws r (p + 1))) = c + (nI (nwC ak ws (r + 1) p) - nI (nrC ak ws (r + 1) p)) := by
  have e1 : nwC ak ws (r + 1) p = nwC ak ws r (p + 1) + if (ak p).1 ≠ 2 ∧ (ak p).2.2.2.2.1 = true ∧ ws (ak p).1 (ak p).2.1 (ak p).2.2.1 = false then 1 else 0 := rfl
  have e2 : nrC ak ws (r + 1) p = nrC ak ws r (p + 1) + if (ak p).1 = 3 ∧ (ak p).2.2.2.2.1 = false ∧ ws (ak p).1 (ak p).2.1 (ak p).2.2.1 = true then 1 else 0 := rfl
  obtain ⟨k1, k2⟩ := hA p hp
  rw [e1, e2]
  cases ht : (ak p).2.2.2.2.1 with
  | true =>
    cases hw : ws (ak p).1 (ak p).2.1 (ak p).2.2.1 with
    | true =>
      rw [if_neg (by simp), if_neg (by simp)]
      show c + (1 - 1) + _ = _
      rw [Int32.sub_self, Int32.add_zero]
      rfl
    | false =>
      rw [if_pos ⟨h2, rfl, rfl⟩, if_neg (by simp)]
      show c + (1 - 0) + _ = _
      rw [i32_p, nI_1]
      rfl
  | false =>
    cases hw : ws (ak p).1 (ak p).2.1 (ak p).2.2.1 with
    | true =>
      have h3 : (ak p).1 = 3 := by
        rcases k1 with q | q | q
        · have := k2 q hw; rw [ht] at this; exact absurd this (by simp)
        · exact absurd q h2
        · exact q
      rw [if_neg (by simp), if_pos ⟨h3, rfl, rfl⟩]
      show c + (0 - 1) + _ = _
      rw [i32_m, nI_1]
      rfl
    | false =>
      rw [if_neg (by simp), if_neg (by simp)]
      show c + (0 - 0) + _ = _
      rw [Int32.sub_self, Int32.add_zero]
      rfl
theorem cfC_t (hA : AkW na ak ws) : ∀ r p c, p + r ≤ na → cfC ak ws r p c = c + (nI (nwC ak ws r p) - nI (nrC ak ws r p))
  | 0, p, c, _ => by
    show c = c + (nI 0 - nI 0)
    rw [Int32.sub_self, Int32.add_zero]
  | r + 1, p, c, h => by
    have e : cfC ak ws (r + 1) p c = cfC ak ws r (p + 1) (c + (bI (if (ak p).1 = 2 then true else (ak p).2.2.2.2.1) - bI (if (ak p).1 = 2 then true else ws (ak p).1 (ak p).2.1 (ak p).2.2.1))) := rfl
    rw [e, cfC_t hA r (p + 1) _ (by omega)]
    by_cases c2 : (ak p).1 = 2
    · have e1 : nwC ak ws (r + 1) p = nwC ak ws r (p + 1) + if (ak p).1 ≠ 2 ∧ (ak p).2.2.2.2.1 = true ∧ ws (ak p).1 (ak p).2.1 (ak p).2.2.1 = false then 1 else 0 := rfl
      have e2 : nrC ak ws (r + 1) p = nrC ak ws r (p + 1) + if (ak p).1 = 3 ∧ (ak p).2.2.2.2.1 = false ∧ ws (ak p).1 (ak p).2.1 (ak p).2.2.1 = true then 1 else 0 := rfl
      rw [if_pos c2, if_pos c2, Int32.sub_self, Int32.add_zero, e1, e2, if_neg (fun q => q.1 c2), if_neg (fun q => by omega)]
      rfl
    · rw [if_neg c2, if_neg c2, st_c hA (by omega) c2 r c]
theorem tmF_t {nc nr : Nat} {ac : Nat → Int64 × Int64 × Int64} {rs : Nat → Int64 × Nat × Hp × Nat} {H : Hp} {sz : Nat → Nat} (hA : AkW na ak ws) (hw : ∀ x : Ask, ws x.1 x.2.1 x.2.2.1 = wasT nc ac nr rs x) (hs : ∀ p, p < na → (ak p).1 = 3 → (ak p).2.2.2.2.1 = true → sz p = szM H 48 (ak p).2.2.2.2.2) : ∀ r p c b, p + r ≤ na → tmF nc ac nr rs H ak r p c b = (c + (nI (nwC ak ws r p) - nI (nrC ak ws r p)), (b || cfT ak sz r p))
  | 0, p, c, b, _ => by
    show (c, b) = (c + (nI 0 - nI 0), (b || false))
    rw [Int32.sub_self, Int32.add_zero, Bool.or_false]
  | r + 1, p, c, b, h => by
    have e : tmF nc ac nr rs H ak (r + 1) p c b = if (ak p).1 = 2 then tmF nc ac nr rs H ak r (p + 1) c b else tmF nc ac nr rs H ak r (p + 1) (c + (bI (ak p).2.2.2.2.1 - bI (wasT nc ac nr rs (ak p)))) (b || tmB H (ak p)) := rfl
    have eT : cfT ak sz (r + 1) p = ((decide ((ak p).1 = 3) && ((ak p).2.2.2.2.1 && decide (64 < sz p))) || cfT ak sz r (p + 1)) := rfl
    rw [e, eT]
    by_cases c2 : (ak p).1 = 2
    · have e1 : nwC ak ws (r + 1) p = nwC ak ws r (p + 1) + if (ak p).1 ≠ 2 ∧ (ak p).2.2.2.2.1 = true ∧ ws (ak p).1 (ak p).2.1 (ak p).2.2.1 = false then 1 else 0 := rfl
      have e2 : nrC ak ws (r + 1) p = nrC ak ws r (p + 1) + if (ak p).1 = 3 ∧ (ak p).2.2.2.2.1 = false ∧ ws (ak p).1 (ak p).2.1 (ak p).2.2.1 = true then 1 else 0 := rfl
      rw [if_pos c2, tmF_t hA hw hs r (p + 1) c b (by omega), e1, e2, if_neg (fun q => q.1 c2), if_neg (fun q => by omega), decide_eq_false (show ¬ (ak p).1 = 3 by omega), Bool.false_and, Bool.false_or]
      rfl
    · have eB : tmB H (ak p) = (decide ((ak p).1 = 3) && ((ak p).2.2.2.2.1 && decide (64 < sz p))) := by
        unfold tmB
        by_cases c3 : (ak p).1 = 3
        · cases ht : (ak p).2.2.2.2.1 with
          | true => rw [hs p (by omega) c3 ht]
          | false => rfl
        · rw [decide_eq_false c3, Bool.false_and, Bool.false_and]
      rw [if_neg c2, tmF_t hA hw hs r (p + 1) _ _ (by omega), ← hw, st_c hA (by omega) c2 r c, eB, Bool.or_assoc]
end
