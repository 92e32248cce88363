/-! A MODULE AS BYTES: judging; THE REFERENCE'S UNIT: judging -/
abbrev Flt : Type := Option (Nat × Nat)
def orE (r s : Flt) : Flt := match r with | some e => some e | none => s
def jT (all p : Nat) (t : Ty) : Flt := match endS t with | some s => if all ≤ s then some (7, p + t.length - 1) else none | none => none
def jTs (all : Nat) : Nat → List Ty → Flt
  | _, [] => none
  | p, t :: ts => orE (jT all p t) (jTs all (p + t.length) ts)
def jOwn (b : Nat → Nat) (own all p : Nat) : Flt := if all ≤ b p then some (7, p) else if own ≤ b p then some (8, p) else none
theorem orE_n (r : Flt) : orE r none = r := by cases r <;> rfl
theorem orE_a (r s t : Flt) : orE (orE r s) t = orE r (orE s t) := by cases r <;> rfl
/-- the unit, as it was passed over, but for its cursor and fault -/
def JS (ku : Nat) (z0 z : St) (r : Flt) : Prop := FrCu ku z0 z ∧ match r with | none => z.1 ku 3 = nI 0 | some e => z.1 ku 3 = nI e.1 ∧ 0 < e.1 ∧ e.1 < 16 ∧ z.1 ku 4 = nI e.2
section
variable {F n : Nat} {sh : Nat → Nat × Nat} {z0 z z' : St} {ku len : Nat} {b : Nat → Nat} {M : MP} {r : Flt}
theorem UM.fr (h : UM sh n z ku b len M) (f : FrCu ku z z') : UM sh n z' ku b len M := by
  obtain ⟨h1, ⟨t1, t2, t3, t4, t5, t6, t7, t8, t9, t10, t11⟩, h3⟩ := h
  have e : ∀ j, 5 ≤ j → z'.1 ku j = z.1 ku j := fun j hj => f.2.2 j (by omega) (by omega) (by omega)
  have g : ∀ k, 1 ≤ k → z'.1 (ku + k) = z.1 (ku + k) := fun k hk => f.2.1 (ku + k) (by omega)
  refine ⟨h1.fr f, ⟨by rw [e 5 (by omega)]; exact t1, fun k hk => by rw [g 2 (by omega)]; exact t2 k hk, by rw [e 6 (by omega)]; exact t3, fun k hk => by rw [g 2 (by omega)]; exact t4 k hk, by rw [e 7 (by omega)]; exact t5, fun k hk => by rw [g 3 (by omega)]; exact t6 k hk, by rw [e 8 (by omega)]; exact t7, fun k hk => by rw [g 4 (by omega)]; exact t8 k hk, by rw [e 9 (by omega)]; exact t9, ⟨by rw [e 10 (by omega)]; exact t10.1, fun j hj => by rw [g 7 (by omega)]; exact t10.2 j hj⟩, fun f' hf => ?_⟩, h3⟩
  rw [g 5 (by omega), g 6 (by omega)]; exact t11 f' hf
theorem JS.um (h : UM sh n z0 ku b len M) (j : JS ku z0 z r) : UM sh n z ku b len M := h.fr j.1
theorem JS.fail (h : UM sh n z0 ku b len M) (j : JS ku z0 z r) {w q : Nat} (h0 : 0 < w) (h16 : w < 16) : ∃ z', fn_X16_fail F sh n z ku (nI w) (nI q) = some (z', ()) ∧ JS ku z0 z' (orE r (some (w, q))) := by
  have um := JS.um h j
  unfold fn_X16_fail
  rw [um.1.o, grd_true]
  cases r with
  | none =>
    have e3 : z.1 ku 3 = nI 0 := j.2
    rw [e3, if_pos (show nI 0 = 0 from rfl), lt_t, lt_t]
    exact ⟨_, rfl, j.1.trans ((FrCu.si (by omega)).trans (FrCu.si (by omega))), by rw [si_oj (by omega), si_ss], h0, h16, si_ss⟩
  | some e =>
    obtain ⟨f, e1, e2, e3, e4⟩ := j
    rw [e1, if_neg (nI_ne0 e2 (by omega))]
    exact ⟨z, rfl, f, e1, e2, e3, e4⟩
theorem JS.good (h : UM sh n z0 ku b len M) (j : JS ku z0 z r) : fn_X16_isGood F sh n z ku = some (z, bI r.isNone) := by
  have um := JS.um h j
  cases r with
  | none => exact um.1.good (w := 0) j.2 (by omega)
  | some e =>
    obtain ⟨f, e1, e2, e3, e4⟩ := j
    have := um.1.good (F := F) e1 e3
    rw [beq_eq_false_iff_ne.mpr (show e.1 ≠ 0 by omega)] at this
    exact this
theorem JS.lookType (hF : 300 ≤ F) (h : UM sh n z0 ku b len M) (j : JS ku z0 z r) {p : Nat} {rf : Bool} {t : Ty} (ht : RdT b len p rf (t, p + t.length)) : ∃ z', fn_X16_lookType F sh n z ku (nI p) = some (z', nI (p + t.length)) ∧ JS ku z0 z' (orE r (jT (M.1.length + M.2.1.length) p t)) := by
  have um := JS.um h j
  have l32 := um.2.2.1.1
  have l33 := um.2.2.2.1.1
  have l8 := um.1.2.2.2.1
  have le : p + t.length ≤ len := ht.2.2.1
  obtain ⟨e1, e2⟩ := um.1.tyEnd (F := F) hF ht
  unfold fn_X16_lookType jT
  rw [um.1.o, grd_true, e1, cal_s, e2, cal_s]
  cases es : endS t with
  | none =>
    rw [if_pos (show bI (none : Option Nat).isSome = 0 from rfl), orE_n]
    exact ⟨z, rfl, j⟩
  | some s =>
    -- the last byte
    obtain ⟨_, _, _, _, pr, k, sfx, e, hr, hk, hs⟩ := ht
    have lst : t.length ≥ 2 ∧ b (p + t.length - 1) = s := by
      have et : t = pr ++ List.replicate k 7 ++ sfx := e
      rcases hs with ⟨c, hc, c1, c5⟩ | ⟨y, hy, ey⟩
      · exfalso
        have key : ∀ (u : Ty), (∀ x, x ∈ u → 6 < x) → endS (u ++ [c]) = none := by
          intro u
          induction u with
          | nil => intro _; rfl
          | cons a u ih =>
            intro hu
            cases u with
            | nil =>
              have : 6 < a := hu a (by simp)
              show endS [a, c] = none
              simp only [endS, if_neg (show ¬ a = 6 by omega)]
            | cons d u =>
              have i := ih (fun x hx => hu x (by simp [hx]))
              cases u with
              | nil => exact i
              | cons _ _ => exact i
        have : endS t = none := by
          rw [et, hc]
          refine key _ (fun x hx => ?_)
          rcases List.mem_append.mp hx with h1 | h1
          · rcases hr with q | ⟨_, q | q⟩ <;> rw [q] at h1
            · cases h1
            · have : x = 8 := by simpa using h1
              omega
            · have : x = 9 := by simpa using h1
              omega
          · have := (List.mem_replicate.mp h1).2; omega
        rw [es] at this; cases this
      · have key : ∀ (u : Ty), endS (u ++ [6, y]) = some y := by
          intro u
          induction u with
          | nil => rfl
          | cons a u ih =>
            cases u with
            | nil => rfl
            | cons d u =>
              cases u with
              | nil => exact ih
              | cons _ _ => exact ih
        have es2 : endS t = some y := by rw [et, hy]; exact key _
        rw [es] at es2
        have sy : s = y := by simpa using es2
        refine ⟨by rw [et, hy, List.length_append]; simp, ?_⟩
        rw [sy, ey]
    have s8 := (um.1.2.2.2.2 (p + t.length - 1) (by omega)).2
    have em : nI (p + t.length) - 1 = nI (p + t.length - 1) := by
      obtain ⟨m, hm⟩ : ∃ m, p + t.length = m + 1 := ⟨p + t.length - 1, by omega⟩
      rw [hm, ← nI_1, Int32.add_sub_cancel, Nat.add_sub_cancel]
    rw [if_neg (show ¬ bI (some s).isSome = 0 from one0), em, um.1.byte (by omega), cal_s, um.2.1.1, um.2.1.2.2.1, nI_add, lst.2]
    by_cases c : M.1.length + M.2.1.length ≤ s
    · obtain ⟨z', q1, q2⟩ := j.fail (F := F) h (w := 7) (q := p + t.length - 1) (by omega) (by omega)
      have q1' : fn_X16_fail F sh n z ku 7 (nI (p + t.length - 1)) = some (z', ()) := q1
      rw [lst.2] at s8
      rw [if_neg (fun x => by have := (nI_ltI (by omega) (by omega)).mp x; omega), q1', cal_s]
      refine ⟨z', rfl, ?_⟩
      show JS ku z0 z' (orE r (if M.1.length + M.2.1.length ≤ s then _ else _))
      rw [if_pos c]; exact q2
    · rw [lst.2] at s8
      rw [if_pos ((nI_ltI (by omega) (by omega)).mpr (by omega))]
      refine ⟨z, rfl, ?_⟩
      show JS ku z0 z (orE r (if M.1.length + M.2.1.length ≤ s then _ else _))
      rw [if_neg c, orE_n]; exact j
end
