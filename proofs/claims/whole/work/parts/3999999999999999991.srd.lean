/-! THE REFERENCE'S UNIT: rounds -/
def rS1 (M : MP) (s : Nat) (rs : Nat → Bool) : Nat → Bool := if rs s = true then (fun x => rs x || holL M.1.length (M.1.getD s dSP).2.2 x) else rs
def rPs (M : MP) : Nat → Nat → (Nat → Bool) → Nat → Bool
  | 0, _, rs => rs
  | m + 1, s, rs => rPs M m (s + 1) (rS1 M s rs)
def rTn (M : MP) : Nat → (Nat → Bool) → Nat → Bool
  | 0, rs => rs
  | m + 1, rs => rTn M m (rPs M M.1.length 0 rs)
/-- a structure that holds itself -/
def isRd (M : MP) (k : Nat) : Bool := rTn M M.1.length (fun x => false || holL M.1.length (M.1.getD k dSP).2.2 x) k
section
variable {F n : Nat} {sh : Nat → Nat × Nat} {z z' : St} {ku len : Nat} {b : Nat → Nat} {M : MP}
theorem UM.rd40 (hF : 300 ≤ F) (t : Int32) {K : St → Int32 → Option (St × Int32)} : ∀ m s g z rs, s + m = M.1.length → m < g → UM sh n z ku b len M → Rch z ku M.1.length rs → ∃ z', fn_X16_isRound_L40 F sh n ku t K g z (nI s) = K z' (t + 1) ∧ UM sh n z' ku b len M ∧ Rch z' ku M.1.length (rPs M m s rs) ∧ FrOw ku [ku + 8] [] z z' := by
  intro m
  induction m with
  | zero =>
    intro s g z rs es hg h hr
    obtain ⟨g, rfl⟩ : ∃ q, g = q + 1 := ⟨g - 1, by omega⟩
    have l32 := h.2.2.1.1
    unfold fn_X16_isRound_L40
    rw [h.2.1.1, if_pos ((nI_leI (by omega) (by omega)).mpr (by omega))]
    exact ⟨z, rfl, h, hr, FrOw.rfl'⟩
  | succ m ih =>
    intro s g z rs es hg h hr
    obtain ⟨g, rfl⟩ : ∃ q, g = q + 1 := ⟨g - 1, by omega⟩
    have l32 := h.2.2.1.1
    obtain ⟨u0, u1, _, _, _, _, _, _, u8, _, _, _, _, _, _, _, u17⟩ := b_unit h.1.1 h.1.2.1
    have ok8 : okA sh n (ku + 8) 103 (nI s) = true := by rw [u17]; exact okI_nI (by omega) (by omega)
    conv => enter [1, z', 1, 1]; unfold fn_X16_isRound_L40
    unfold fn_X16_isRound_B62
    rw [h.2.1.1, if_neg (fun x => by have := (nI_leI (by omega) (by omega)).mp x; omega), u8, lnk_s, ok8, grd_true, nI_clamp (by omega), hr s (by omega), nI_1]
    show ∃ z', _ ∧ _ ∧ Rch z' ku M.1.length (rPs M m (s + 1) (rS1 M s rs)) ∧ _
    cases e : rs s with
    | false =>
      have er : rS1 M s rs = rs := by unfold rS1; rw [if_neg (by rw [e]; simp)]
      rw [if_pos (show bI false = 0 from rfl), er]
      exact ih (s + 1) g z rs (by omega) (by omega) h hr
    | true =>
      have er : rS1 M s rs = fun x => rs x || holL M.1.length (M.1.getD s dSP).2.2 x := by unfold rS1; rw [if_pos e]
      obtain ⟨z1, t1, t2, t3, t4⟩ := h.reach (F := F) hF (k := s) (by omega) hr
      obtain ⟨z2, v1, v2, v3, v4⟩ := ih (s + 1) g z1 _ (by omega) (by omega) t2 t3
      rw [if_neg (show ¬ bI true = 0 from one0), t1, cal_s, er]
      exact ⟨z2, v1, v2, v3, t4.trans v4⟩
theorem UM.rd30 (hF : 300 ≤ F) {k : Nat} (hk : k < M.1.length) : ∀ m s g z rs, s + m = M.1.length → m < g → UM sh n z ku b len M → Rch z ku M.1.length rs → ∃ z', fn_X16_isRound_L30 F sh n ku (nI k) g z (nI s) = some (z', bI (rTn M m rs k)) ∧ UM sh n z' ku b len M ∧ FrOw ku [ku + 8] [] z z' := by
  intro m
  induction m with
  | zero =>
    intro s g z rs es hg h hr
    obtain ⟨g, rfl⟩ : ∃ q, g = q + 1 := ⟨g - 1, by omega⟩
    have l32 := h.2.2.1.1
    obtain ⟨u0, u1, _, _, _, _, _, _, u8, _, _, _, _, _, _, _, u17⟩ := b_unit h.1.1 h.1.2.1
    have ok8 : okA sh n (ku + 8) 103 (nI k) = true := by rw [u17]; exact okI_nI (by omega) (by omega)
    have oz : okZ (bI (rs k)) = true := by cases rs k <;> rfl
    unfold fn_X16_isRound_L30
    rw [h.2.1.1, if_pos ((nI_leI (by omega) (by omega)).mpr (by omega)), u8, lnk_s, ok8, grd_true, nI_clamp (by omega), hr k hk, oz, grd_true]
    exact ⟨z, rfl, h, FrOw.rfl'⟩
  | succ m ih =>
    intro s g z rs es hg h hr
    obtain ⟨g, rfl⟩ : ∃ q, g = q + 1 := ⟨g - 1, by omega⟩
    have l32 := h.2.2.1.1
    obtain ⟨z1, t1, t2, t3, t4⟩ := UM.rd40 (F := F) hF (nI s) (K := fun z9 q2 => fn_X16_isRound_L30 F sh n ku (nI k) g z9 q2) M.1.length 0 F z rs (by omega) (by omega) h hr
    have t1' : fn_X16_isRound_L40 F sh n ku (nI s) (fun z9 q2 => fn_X16_isRound_L30 F sh n ku (nI k) g z9 q2) F z 0 = fn_X16_isRound_L30 F sh n ku (nI k) g z1 (nI s + 1) := t1
    obtain ⟨z2, v1, v2, v3⟩ := ih (s + 1) g z1 _ (by omega) (by omega) t2 t3
    conv => enter [1, z', 1, 1]; unfold fn_X16_isRound_L30
    rw [h.2.1.1, if_neg (fun x => by have := (nI_leI (by omega) (by omega)).mp x; omega), t1', nI_1, v1]
    exact ⟨z2, rfl, v2, t4.trans v3⟩
theorem UM.isRound (hF : 300 ≤ F) (h : UM sh n z ku b len M) {k : Nat} (hk : k < M.1.length) : ∃ z', fn_X16_isRound F sh n z ku (nI k) = some (z', bI (isRd M k)) ∧ UM sh n z' ku b len M ∧ FrOw ku [ku + 8] [] z z' := by
  have l32 := h.2.2.1.1
  have lp : ∀ m s g z, s + m = M.1.length → m < g → UM sh n z ku b len M → (∀ x, x < s → z.1 (ku + 8) x = 0) → ∃ z', fn_X16_isRound_L2 F sh n ku (nI k) g z (nI s) = some (z', bI (isRd M k)) ∧ UM sh n z' ku b len M ∧ FrOw ku [ku + 8] [] z z' := by
    intro m
    induction m with
    | zero =>
      intro s g z es hg h hz
      obtain ⟨g, rfl⟩ : ∃ q, g = q + 1 := ⟨g - 1, by omega⟩
      obtain ⟨z1, t1, t2, t3, t4⟩ := h.reach (F := F) hF hk (rs := fun _ => false) (fun x hx => by rw [hz x (by omega)]; rfl)
      obtain ⟨z2, v1, v2, v3⟩ := UM.rd30 (F := F) hF hk M.1.length 0 F z1 _ (by omega) (by omega) t2 t3
      have v1' : fn_X16_isRound_L30 F sh n ku (nI k) F z1 0 = _ := v1
      unfold fn_X16_isRound_L2
      rw [h.1.o, grd_true, h.2.1.1, if_pos ((nI_leI (by omega) (by omega)).mpr (by omega)), t1, cal_s, v1']
      exact ⟨z2, rfl, v2, t4.trans v3⟩
    | succ m ih =>
      intro s g z es hg h hz
      obtain ⟨g, rfl⟩ : ∃ q, g = q + 1 := ⟨g - 1, by omega⟩
      obtain ⟨u0, u1, _, _, _, _, _, _, u8, _, _, _, _, _, _, _, u17⟩ := b_unit h.1.1 h.1.2.1
      have ok8 : okA sh n (ku + 8) 103 (nI s) = true := by rw [u17]; exact okI_nI (by omega) (by omega)
      have n0 : vp_nar .boolean 0 = 0 := nar_bI false
      obtain ⟨z2, v1, v2, v3⟩ := ih (s + 1) g (si z (ku + 8) s 0) (by omega) (by omega) (h.s8 s 0) (fun x hx => by
        by_cases c : x = s
        · rw [c, si_ss]
        · rw [si_oj c]; exact hz x (by omega))
      conv => enter [1, z', 1, 1]; unfold fn_X16_isRound_L2
      rw [h.1.o, grd_true, h.2.1.1, if_neg (fun x => by have := (nI_leI (by omega) (by omega)).mp x; omega), u8, lnk_s, ok8, grd_true, lt_t, nI_clamp (by omega), n0, nI_1, v1]
      exact ⟨z2, rfl, v2, (FrOw.si (.inr ⟨by omega, by simp⟩)).trans v3⟩
  exact lp M.1.length 0 F z (by omega) (by omega) h (fun x hx => by omega)
end
