/-! THE REFERENCE LOOKS AT ALL FUNCTIONS -/
/-- what the reference's looker may change -/
def FrLm (z z' : St) : Prop := (∀ k j, k ≠ 355 ∨ j ≠ 0 → z'.2.2 k j = z.2.2 k j) ∧ (∀ k, k < 355 ∨ 367 < k → z'.2.1 k = z.2.1 k) ∧ (∀ k, k < 355 ∨ 367 < k → k ≠ 337 → z'.1 k = z.1 k) ∧ ∀ j, j ≠ 23 → z'.1 337 j = z.1 337 j
theorem FrLm.rfl' {z : St} : FrLm z z := ⟨fun _ _ _ => rfl, fun _ _ => rfl, fun _ _ _ => rfl, fun _ _ => rfl⟩
theorem FrLm.trans {z z' z'' : St} (f : FrLm z z') (g : FrLm z' z'') : FrLm z z'' := ⟨fun k j h => (g.1 k j h).trans (f.1 k j h), fun k h => (g.2.1 k h).trans (f.2.1 k h), fun k h a => (g.2.2.1 k h a).trans (f.2.2.1 k h a), fun j h => (g.2.2.2 j h).trans (f.2.2.2 j h)⟩
theorem FrLm.lay {sh : Nat → Nat × Nat} {n : Nat} {z z' : St} (f : FrLm z z') (h : Lay sh n z) : Lay sh n z' := ⟨h.1, h.2.1, fun k j t q => by
  rw [f.1 k j]
  · exact h.2.2 k j t q
  · by_cases c : k = 355 ∧ j = 0
    · rw [c.1, c.2] at q
      have : lkF 355 0 = none := rfl
      rw [this] at q; cases q
    · omega⟩
theorem FrLm.of3 {z z' : St} {u : Option Nat} {f : Int32} (h : FrL3 (si (sq z 355 0 u) 355 1 f) z') : FrLm z z' := by
  refine ⟨fun k j q => ?_, fun k q => ?_, fun k q _ => ?_, fun j _ => ?_⟩
  · rw [h.1]
    show (sq z 355 0 u).2.2 k j = _
    rcases q with q | q
    · simp [sq, q]
    · simp [sq, q]
      intro e; rw [e]
  · rw [(h.2 k q).2]; rfl
  · rw [(h.2 k q).1, si_ok (by omega)]; rfl
  · rw [(h.2 337 (by omega)).1, si_ok (by omega)]; rfl
def LkM (z' : St) (v : Int32) : Option (Nat × Nat × Nat) → Prop
  | none => v = 0
  | some q => v = nI (30 + q.1) ∧ 0 < q.1 ∧ q.1 < 16 ∧ z'.1 337 23 = nI (1024 * q.2.1 + q.2.2)
section
variable {F n : Nat} {sh : Nat → Nat × Nat} {z z' : St} {ku len : Nat} {b : Nat → Nat} {M : MP}
theorem UM.fm (h : UM sh n z ku b len M) (f : FrLm z z') : UM sh n z' ku b len M := by
  obtain ⟨⟨u1, u2, u3, u4, u5⟩, ⟨t1, t2, t3, t4, t5, t6, t7, t8, t9, t10, t11⟩, h3⟩ := h
  have hk : 423 ≤ ku := by obtain ⟨i, _, e⟩ := u2; omega
  have g : ∀ k, 423 ≤ k → z'.1 k = z.1 k := fun k hk => f.2.2.1 k (by omega) (by omega)
  refine ⟨⟨f.lay u1, u2, by rw [g ku hk]; exact u3, u4, fun p hp => by rw [g (ku + 1) (by omega)]; exact u5 p hp⟩, ⟨by rw [g ku hk]; exact t1, fun k hk2 => by rw [g (ku + 2) (by omega)]; exact t2 k hk2, by rw [g ku hk]; exact t3, fun k hk2 => by rw [g (ku + 2) (by omega)]; exact t4 k hk2, by rw [g ku hk]; exact t5, fun k hk2 => by rw [g (ku + 3) (by omega)]; exact t6 k hk2, by rw [g ku hk]; exact t7, fun k hk2 => by rw [g (ku + 4) (by omega)]; exact t8 k hk2, by rw [g ku hk]; exact t9, ⟨by rw [g ku hk]; exact t10.1, fun j hj => by rw [g (ku + 7) (by omega)]; exact t10.2 j hj⟩, fun f hf => by rw [g (ku + 5) (by omega), g (ku + 6) (by omega)]; exact t11 f hf⟩, h3⟩
theorem lookR (hF : 3000 ≤ F) (hj : jM b M = none) (hA : (allC M.2.2.2.2).length ≤ len) : ∀ r f g z, f + r = M.2.2.2.2.length → r < g → UM sh n z ku b len M → ∃ z' v, fn_X18_takeModule_L310 F sh n ku 337 g z (nI f) = some (z', v) ∧ LkM z' v (lookA (mdOf b M) r f) ∧ FrLm z z' := by
  intro r
  induction r with
  | zero =>
    intro f g z ef hg h
    obtain ⟨g, rfl⟩ : ∃ q, g = q + 1 := ⟨g - 1, by omega⟩
    have l64 := h.2.2.2.2.2.2.1
    unfold fn_X18_takeModule_L310
    rw [h.2.1.2.2.2.2.2.2.2.2.1, if_pos ((nI_leI (by omega) (by omega)).mpr (by omega))]
    exact ⟨z, 0, rfl, rfl, FrLm.rfl'⟩
  | succ r ih =>
    intro f g z ef hg h
    obtain ⟨g, rfl⟩ : ∃ q, g = q + 1 := ⟨g - 1, by omega⟩
    have l64 := h.2.2.2.2.2.2.1
    have hb : ∀ q, q < len → b q < 256 := fun q hq => (h.1.2.2.2.2 q hq).2
    have hf : f < M.2.2.2.2.length := by omega
    have hL := h.1.1
    obtain ⟨fo1, fo2, fo3, fo4⟩ := fnO_of hb h.2.2 hj hf
    have m16 := hL.2.2 337 16 355 rfl
    have o13 : okO sh n 355 13 = true := lay_o hL 355 13 0 (by decide) rfl
    obtain ⟨z1, v, q1, q2, q3⟩ := checkT (F := F) (by omega) hL (U := mdOf b M) (f := f) (ku := ku) fo2 (fun z' hz => by
      have um := h.fm (FrLm.of3 hz)
      exact ⟨um.unL (by omega), um.unI (by omega) hA hf, um.unB (by omega) hf⟩) (mdO_of hb h.2.2 hj) (by show f < M.2.2.2.2.length + M.2.2.1.length; omega) fo1 fo3 fo4
    have fm := FrLm.of3 q3
    unfold fn_X18_takeModule_L310
    rw [h.2.1.2.2.2.2.2.2.2.2.1, if_neg (fun y => by have := (nI_leI (by omega) (by omega)).mp y; omega), m16, lnk_s, o13, grd_true, q1, cal_s]
    unfold lookA
    cases e : vrd (mdOf b M) f with
    | none =>
      rw [e] at q2
      have q2' : v = 0 := q2
      subst q2'
      rw [if_pos rfl, nI_1]
      obtain ⟨z2, v2, s1, s2, s3⟩ := ih (f + 1) g z1 (by omega) (by omega) (h.fm fm)
      exact ⟨z2, v2, s1, s2, fm.trans s3⟩
    | some q =>
      rw [e] at q2
      obtain ⟨w1, w2, w3, w4⟩ := q2
      subst w1
      have L1 := fm.lay hL
      have o18 := (b_model L1).1
      rw [if_neg (nI_ne0 w2 (by omega)), L1.2.2 337 16 355 rfl, lnk_s, o13, grd_true, w4]
      unfold fn_X18_tell
      rw [o18, grd_true, lt_t, cal_s]
      refine ⟨_, _, rfl, ⟨by rw [show (30 : Int32) + nI q.1 = nI (30 + q.1) from nI_add 30 q.1], w2, w3, ?_⟩, fm.trans ?_⟩
      · rw [si_ss, show (1024 : Int32) * nI f = nI (1024 * f) from pk_mul 1024 f, nI_add]
      · exact ⟨fun _ _ _ => rfl, fun _ _ => rfl, fun k _ a => si_ok a, fun j a => si_oj a⟩
end
