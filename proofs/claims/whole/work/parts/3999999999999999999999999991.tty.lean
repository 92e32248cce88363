/-! COINS: what is asked of them, but for the stored ones -/
def bsum (ac : Nat → Int64 × Int64 × Int64) : Nat → Nat → Int64 → Int64
  | 0, _, s => s
  | r + 1, p, s => bsum ac r (p + 1) (s + (ac p).2.1)
section
variable {RV : RtV} {F n : Nat} {sh : Nat → Nat × Nat} {z y : St} {nc nr : Nat} {ac : Nat → Int64 × Int64 × Int64} {rs : Nat → Int64 × Nat × Hp × Nat} {so : Nat → Option Rsc}
theorem allB_L (hL : Lay sh n y) (cg : CLg y nc ac nr so) : ∀ r p g s, p + r = nc → r < g → fn_X7_allBalances_L4 F sh n 3 g y s (nI p) = some (y, bsum ac r p s) := by
  have n256 := cg.1.2.1
  intro r
  induction r with
  | zero =>
    intro p g s h1 h2
    obtain ⟨g, rfl⟩ : ∃ q, g = q + 1 := ⟨g - 1, by omega⟩
    unfold fn_X7_allBalances_L4
    rw [(b_state hL).1, grd_true, cg.1.1, if_pos ((nI_leW (by omega) (by omega)).mpr (by omega))]; rfl
  | succ r ih =>
    intro p g s h1 h2
    obtain ⟨g, rfl⟩ : ∃ q, g = q + 1 := ⟨g - 1, by omega⟩
    have := ih (p + 1) g (s + (ac p).2.1) (by omega) (by omega)
    obtain ⟨q1, q2, q3⟩ := cg.1.2.2 p (by omega)
    unfold fn_X7_allBalances_L4 bsum
    rw [(b_state hL).1, grd_true, cg.1.1, if_neg (fun e => by have := (nI_leW (a := nc) (b := p) (by omega) (by omega)).mp e; omega), (b_state hL).2.2.1, lnk_s, lay_a hL 5 102 256 (by decide) rfl, okI_nI (by omega) (by omega), grd_true, nI_clamp (by omega), q2, lt_t, show nI p + 1 = nI (p + 1) from nI_add p 1]
    exact this
theorem coins_24 (hL : Lay sh n z) (rl : RLg z nc ac nr rs) : ∀ r p g s, p + r = nc → r < g → fn_X18_coins_L24 F sh n 337 2 g z s (nI p) = fn_X18_coins_B54 F sh n 337 2 z (bsum ac r p s) := by
  have n256 := rl.1.2.1
  intro r
  induction r with
  | zero =>
    intro p g s h1 h2
    obtain ⟨g, rfl⟩ : ∃ q, g = q + 1 := ⟨g - 1, by omega⟩
    unfold fn_X18_coins_L24
    rw [(b_model hL).1, grd_true, rl.1.1, if_pos ((nI_leW (by omega) (by omega)).mpr (by omega))]; rfl
  | succ r ih =>
    intro p g s h1 h2
    obtain ⟨g, rfl⟩ : ∃ q, g = q + 1 := ⟨g - 1, by omega⟩
    have := ih (p + 1) g (s + (ac p).2.1) (by omega) (by omega)
    obtain ⟨q1, q2, q3⟩ := rl.1.2.2 p (by omega)
    unfold fn_X18_coins_L24 bsum
    rw [(b_model hL).1, grd_true, rl.1.1, if_neg (fun e => by have := (nI_leW (a := nc) (b := p) (by omega) (by omega)).mp e; omega), if_pos rfl, (b_model hL).2.2.1, lnk_s, lay_a hL 339 102 256 (by decide) rfl, okI_nI (by omega) (by omega), grd_true, nI_clamp (by omega), q2, lt_t, show nI p + 1 = nI (p + 1) from nI_add p 1]
    exact this
theorem coins_o (hF : 0 < F) (hL : Lay sh n z) {x : Int32} (h2 : ¬ x = 2) : fn_X18_coins_L24 F sh n 337 x F z 0 0 = fn_X18_coins_L57 F sh n 337 x F z 0 0 := by
  obtain ⟨g, eg⟩ : ∃ q, F = q + 1 := ⟨F - 1, by omega⟩
  subst eg
  rw [fn_X18_coins_L24, (b_model hL).1, grd_true, if_neg h2, ite_self]
  rfl
theorem coins_57 (hF : 0 < F) {x : Int32} {s : Int64} (h3 : ¬ x = 3) : fn_X18_coins_L57 F sh n 337 x F z s 0 = some (z, s) := by
  obtain ⟨g, eg⟩ : ∃ q, F = q + 1 := ⟨F - 1, by omega⟩
  subst eg
  rw [fn_X18_coins_L57, if_neg h3, ite_self]
theorem m_coins (hF : 300 ≤ F) (y0 : Int32) (hst : ∃ r, fn_X7_storedCoins F sh n y 3 = some (y, r) ∧ fn_X18_coins_L57 F sh n 337 3 F z 0 0 = some (z, r)) (h : Top RV sh n z y) : ∃ z' y' r, fn_X11_coins F sh n y 0 y0 = some (y', r) ∧ fn_X18_coins F sh n z 337 y0 = some (z', r) ∧ Top RV sh n z' y' := by
  have h0 := h
  obtain ⟨ws, wc, dp, bs, nc, ac, nr, rs, so, D, a1, ⟨⟨r1, r2, _⟩, _, ⟨m1, m2, _⟩, _⟩, a3, a4, a5, a6⟩ := h
  have hL := a1.1.1
  have hC := a1.2.1.1
  have n256 := r1.1.2.1
  suffices q : ∃ r, fn_X11_coins F sh n y 0 y0 = some (y, r) ∧ fn_X18_coins F sh n z 337 y0 = some (z, r) by
    obtain ⟨r, q1, q2⟩ := q
    exact ⟨z, y, r, q1, q2, h0⟩
  unfold fn_X11_coins fn_X18_coins
  rw [(b_ledg hC).1, (b_model hL).1, (b_ledg hC).2.2.2.1]
  simp only [grd_true, lnk_s, (b_state hC).1]
  by_cases w0 : y0 = 0
  · rw [if_pos w0, if_pos w0, m1]; exact ⟨_, rfl, rfl⟩
  rw [if_neg w0, if_neg w0]
  by_cases w1 : y0 = 1
  · rw [if_pos w1, if_pos w1, m2]; exact ⟨_, rfl, rfl⟩
  rw [if_neg w1, if_neg w1]
  by_cases w2 : y0 = 2
  · subst w2
    rw [if_pos rfl]
    unfold fn_X7_allBalances
    have e1 := allB_L (F := F) hC r2 nc 0 F 0 (by omega) (by omega)
    have e2 := coins_24 (F := F) hL r1 nc 0 F 0 (by omega) (by omega)
    refine ⟨bsum ac nc 0 0, ?_, ?_⟩
    · rw [show (0 : Int32) = nI 0 from rfl, e1, cal_s]
    · rw [show (0 : Int32) = nI 0 from rfl, e2]
      unfold fn_X18_coins_B54
      exact coins_57 (by omega) (by decide)
  rw [if_neg w2]
  by_cases w3 : y0 = 3
  · subst w3
    obtain ⟨r, q1, q2⟩ := hst
    refine ⟨r, by rw [if_pos rfl, q1, cal_s], ?_⟩
    rw [coins_o (by omega) hL (by decide)]; exact q2
  · rw [if_neg w3, coins_o (by omega) hL w2, coins_57 (by omega) w3]; exact ⟨_, rfl, rfl⟩
end
