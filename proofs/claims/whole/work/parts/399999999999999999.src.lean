/-! THE REFERENCE'S UNIT: what a structure holds -/
def holL (own : Nat) (ts : List Ty) (s : Nat) : Bool := ts.any (fun t => ownT own t == some s)
section
variable {F n : Nat} {sh : Nat → Nat × Nat} {z z' : St} {ku len : Nat} {b : Nat → Nat} {M : MP}
theorem UM.s8 (h : UM sh n z ku b len M) (s : Nat) (v : Int32) : UM sh n (si z (ku + 8) s v) ku b len M := by
  obtain ⟨h1, ⟨t1, t2, t3, t4, t5, t6, t7, t8, t9, t10, t11⟩, h3⟩ := h
  have f : FrOw ku [ku + 8] [] z (si z (ku + 8) s v) := FrOw.si (.inr ⟨by omega, by simp⟩)
  have e : ∀ j, (si z (ku + 8) s v).1 ku j = z.1 ku j := fun j => f.2.2 j (by simp)
  have g : ∀ k, 1 ≤ k → k ≤ 7 → (si z (ku + 8) s v).1 (ku + k) = z.1 (ku + k) := fun k hk h7 => f.2.1 (ku + k) (by omega) (by simp; omega)
  refine ⟨h1.frw f (by simp) (by simp), ⟨by rw [e 5]; exact t1, fun k hk => by rw [g 2 (by omega) (by omega)]; exact t2 k hk, by rw [e 6]; exact t3, fun k hk => by rw [g 2 (by omega) (by omega)]; exact t4 k hk, by rw [e 7]; exact t5, fun k hk => by rw [g 3 (by omega) (by omega)]; exact t6 k hk, by rw [e 8]; exact t7, fun k hk => by rw [g 4 (by omega) (by omega)]; exact t8 k hk, by rw [e 9]; exact t9, ⟨by rw [e 10]; exact t10.1, fun j hj => by rw [g 7 (by omega) (by omega)]; exact t10.2 j hj⟩, fun f' hf => ?_⟩, h3⟩
  rw [g 5 (by omega) (by omega), g 6 (by omega) (by omega)]; exact t11 f' hf
theorem ownT_lt {own s : Nat} {t : Ty} (h : ownT own t = some s) : s < own := by
  unfold ownT at h
  cases e : endS t with
  | none => rw [e] at h; cases h
  | some x =>
    rw [e] at h
    have h' : (if x < own then some x else none : Option Nat) = some s := h
    by_cases c : x < own
    · rw [if_pos c] at h'; cases h'; exact c
    · rw [if_neg c] at h'; cases h'
/-- what is reached so far -/
def Rch (z : St) (ku own : Nat) (rs : Nat → Bool) : Prop := ∀ s, s < own → z.1 (ku + 8) s = bI (rs s)
theorem UM.reach (hF : 300 ≤ F) (h : UM sh n z ku b len M) {k : Nat} (hk : k < M.1.length) {rs : Nat → Bool} (hr : Rch z ku M.1.length rs) : ∃ z', fn_X16_reach F sh n z ku (nI k) = some (z', ()) ∧ UM sh n z' ku b len M ∧ Rch z' ku M.1.length (fun s => rs s || holL M.1.length (M.1.getD k dSP).2.2 s) ∧ FrOw ku [ku + 8] [] z z' := by
  have l32 := h.2.2.1.1
  obtain ⟨s1, s2, s3, s4, s5⟩ := h.sAt hk
  have f16 := s5.2.2.2.2.2.1
  have lp : ∀ (us : List Ty) (m g q : Nat) (z : St) (rs : Nat → Bool), m + us.length = (M.1.getD k dSP).2.2.length → us.length < g → AtL b len false q us → UM sh n z ku b len M → Rch z ku M.1.length rs → ∃ z', fn_X16_reach_L11 F sh n ku (nI k) g z (nI q) (nI m) = some (z', ()) ∧ UM sh n z' ku b len M ∧ Rch z' ku M.1.length (fun s => rs s || holL M.1.length us s) ∧ FrOw ku [ku + 8] [] z z' := by
    intro us
    induction us with
    | nil =>
      intro m g q z rs em hg ha hu hr
      obtain ⟨g, rfl⟩ : ∃ q, g = q + 1 := ⟨g - 1, by omega⟩
      have em' : m = (M.1.getD k dSP).2.2.length := by simpa using em
      unfold fn_X16_reach_L11
      rw [hu.fieldsOf hk, cal_s, if_pos ((nI_leI (by omega) (by omega)).mpr (by omega))]
      exact ⟨z, rfl, hu, fun s hs => by show _ = bI (rs s || false); rw [Bool.or_false]; exact hr s hs, FrOw.rfl'⟩
    | cons t us ih =>
      intro m g q z rs em hg ha hu hr
      obtain ⟨g, rfl⟩ : ∃ q, g = q + 1 := ⟨g - 1, by omega⟩
      have em' : m + (us.length + 1) = (M.1.getD k dSP).2.2.length := em
      have hg' : us.length + 1 < g + 1 := hg
      obtain ⟨u0, u1, _, _, _, _, _, _, u8, _, _, _, _, _, _, _, u17⟩ := b_unit hu.1.1 hu.1.2.1
      conv => enter [1, z', 1, 1]; unfold fn_X16_reach_L11
      rw [hu.fieldsOf hk, cal_s, if_neg (fun x => by have := (nI_leI (by omega) (by omega)).mp x; omega), hu.ownIn hF ha.1, cal_s]
      unfold fn_X16_reach_B39
      cases eo : ownT M.1.length t with
      | none =>
        rw [if_pos (show (-1 : Int32) < 0 by decide), (hu.1.tyEnd (F := F) hF ha.1).1, cal_s, nI_1]
        obtain ⟨z', t1, t2, t3, t4⟩ := ih (m + 1) g (q + t.length) z rs (by omega) (by omega) ha.2 hu hr
        refine ⟨z', t1, t2, fun s hs => ?_, t4⟩
        rw [t3 s hs]
        show bI (rs s || holL M.1.length us s) = bI (rs s || ((ownT M.1.length t == some s) || holL M.1.length us s))
        rw [eo]; rfl
      | some x =>
        have xl := ownT_lt eo
        have ok8 : okA sh n (ku + 8) 103 (nI x) = true := by rw [u17]; exact okI_nI (by omega) (by omega)
        have n1 : vp_nar .boolean 1 = 1 := nar_bI true
        have hu2 := hu.s8 x 1
        obtain ⟨z', t1, t2, t3, t4⟩ := ih (m + 1) g (q + t.length) (si z (ku + 8) x 1) (fun s => rs s || (s == x)) (by omega) (by omega) ha.2 hu2 (fun s hs => by
          by_cases c : s = x
          · rw [c, si_ss]
            show (1 : Int32) = bI (rs x || (x == x))
            rw [beq_self_eq_true, Bool.or_true]; rfl
          · rw [si_oj c, hr s hs]
            show _ = bI (rs s || (s == x))
            rw [beq_eq_false_iff_ne.mpr c, Bool.or_false])
        rw [if_neg (show ¬ nI x < 0 from (oI0 x (by omega)).2), u8, lnk_s, hu.ownIn hF ha.1, cal_s, eo]
        show ∃ z', grd (okA sh n (ku + 8) 103 (nI x)) _ = some (z', ()) ∧ _
        rw [ok8, grd_true, lt_t, n1, nI_clamp (by omega), (hu2.1.tyEnd (F := F) hF ha.1).1, cal_s, nI_1]
        refine ⟨z', t1, t2, fun s hs => ?_, (FrOw.si (.inr ⟨by omega, by simp⟩)).trans t4⟩
        rw [t3 s hs]
        show bI ((rs s || (s == x)) || holL M.1.length us s) = bI (rs s || ((ownT M.1.length t == some s) || holL M.1.length us s))
        rw [eo, Bool.or_assoc]
        have : (s == x) = ((some x : Option Nat) == some s) := by
          by_cases c : s = x
          · rw [c, beq_self_eq_true, beq_self_eq_true]
          · rw [beq_eq_false_iff_ne.mpr c, beq_eq_false_iff_ne.mpr (fun q => c (by cases q; rfl))]
        rw [this]
  unfold fn_X16_reach
  rw [h.1.o, grd_true, s1, lnk_s, s2, grd_true, s3, s4, show (2 : Int32) = nI 2 from rfl, nI_add, lt_t]
  exact lp (M.1.getD k dSP).2.2 0 F ((M.1.getD k dSP).1 + 2) z rs (by omega) (by omega) s5.2.2.2.2.2.2 h hr
end
