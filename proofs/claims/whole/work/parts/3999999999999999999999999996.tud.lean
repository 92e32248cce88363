/-! STORED COINS: both methods -/
theorem TyE.k11 {SF : Nat → List Nat} : ∀ d (E : List Ent), TyE SF d E → ∀ e, e ∈ E → e.1 < 11
  | 0, _, h, _, _ => absurd h (by simp [TyE])
  | d + 1, E, h, e, he => by
    obtain ⟨x, Es, h1, h2, h3, h4, h5⟩ := h
    rw [h1] at he
    rcases List.mem_cons.mp he with q | q
    · rw [q]; exact h4.inn.1
    · obtain ⟨l, l1, l2⟩ := List.mem_flatten.mp q
      exact TyE.k11 d l (h5 l l1) e l2
section
variable {RV : RtV} {F n : Nat} {sh : Nat → Nat × Nat} {z y : St} {nc nr : Nat} {ac : Nat → Int64 × Int64 × Int64} {rs : Nat → Int64 × Nat × Hp × Nat} {so : Nat → Option Rsc} {E : Ev}
theorem ResR.co {Q : Hp} {sz k : Nat} {En : List Ent} (h : ResR E E.1 Q sz k En) : ∀ w, w < sz → (Q w).1 = 6 → (Q w).2.2.1 = 0 → w + 1 < sz := by
  obtain ⟨d, tq, h1, h2, h3, h4, h5, h6, h7⟩ := h
  intro w hw k6 l0
  obtain ⟨q1, q2, q3, q4, q5, q6, q7, q8⟩ := h5 w hw
  unfold LTm at q2
  rcases q2 with v | v | v | v | v | v | v | v
  · omega
  · omega
  · omega
  · omega
  · omega
  · have e := v.2.2.2.2
    cases ek : kds Q w with
    | nil => rw [ek] at e; simp at e
    | cons c cs =>
      have := q6 c (by rw [ek]; exact List.mem_cons_self ..)
      omega
  · have := v.2.2.2.2.1
    rw [l0] at this
    exact absurd this.symm (lN_n0 (k := tq w - 256) (by omega) (by omega))
  · omega
theorem coins_57s (hF : 300 ≤ F) (hL : Lay sh n z) (rl : RLg z nc ac nr rs) (rp : RsP E E.1 nr rs so) : ∀ m i g t, i + m = nr → m < g → fn_X18_coins_L57 F sh n 337 3 g z (lN t) (nI i) = some (z, lN (t + tsum (rSo rs) m i)) := by
  have n256 := rl.2.2.1
  intro m
  induction m with
  | zero =>
    intro i g t h1 h2
    obtain ⟨g, rfl⟩ : ∃ q, g = q + 1 := ⟨g - 1, by omega⟩
    unfold fn_X18_coins_L57
    rw [rl.2.1, if_pos ((nI_leW (by omega) (by omega)).mpr (by omega))]; rfl
  | succ m ih =>
    intro i g t h1 h2
    obtain ⟨g, rfl⟩ : ∃ q, g = q + 1 := ⟨g - 1, by omega⟩
    obtain ⟨c1, c2, c3, c4, c5, c6⟩ := rl.2.2.2 i (by omega)
    obtain ⟨_, r, x, q1, q2, q3, q4, q5⟩ := rp.1 i (by omega)
    unfold fn_X18_coins_L57
    rw [rl.2.1, if_neg (fun e => by have := (nI_leW (a := nr) (b := i) (by omega) (by omega)).mp e; omega), if_pos rfl, coinsIn_t (by omega) hL (by omega) c6 c5 c4 q5.co, cal_s, lt_t, lN_add2, show nI i + 1 = nI (i + 1) from nI_add i 1, ih (i + 1) g _ (by omega) (by omega)]
    show _ = some (z, lN (t + (rSo rs i + tsum (rSo rs) m (i + 1))))
    rw [← Nat.add_assoc]; rfl
theorem stored_t (hF : 300 ≤ F) (h : Top RV sh n z y) : ∃ r, fn_X7_storedCoins F sh n y 3 = some (y, r) ∧ fn_X18_coins_L57 F sh n 337 3 F z 0 0 = some (z, r) := by
  obtain ⟨ws, wc, dp, bs, nc, ac, nr, rs, so, D, a1, ⟨⟨r1, r2, rp, _⟩, _⟩, _⟩ := h
  have rp' : RsP (evW ws wc dp led0) (evW ws wc dp led0).1 nr rs so := rp
  have n256 := r1.2.2.1
  refine ⟨lN (0 + tsum (cSo so) 256 0), ?_, ?_⟩
  · unfold fn_X7_storedCoins
    exact stored_4 (by omega) a1.2.1.1 r2 (fun r x hr e => by
      obtain ⟨i, _, _, _, q⟩ := rp'.match hr e
      obtain ⟨d, tq, q1, _⟩ := q
      exact TyE.k11 d _ q1) 256 0 F 0 (by omega) (by omega)
  · rw [coins_sum a1.2.2.1.evA rp' (fun i hi => (r1.2.2.2 i hi).2.2.2.1)]
    exact coins_57s (by omega) a1.1.1 r1 rp' nr 0 F 0 (by omega) (by omega)
theorem m_coins' (hF : 300 ≤ F) (y0 : Int32) (h : Top RV sh n z y) : ∃ z' y' r, fn_X11_coins F sh n y 0 y0 = some (y', r) ∧ fn_X18_coins F sh n z 337 y0 = some (z', r) ∧ Top RV sh n z' y' := m_coins hF y0 (stored_t hF h) h
theorem lw_coins {q : Nat} (y0 : Int32) (hq : q ≤ 512) (h : IV RV q sh n z) : ∃ F z1 z2 r, fn_X11_coins F sh n z 0 y0 = some (z1, r) ∧ fn_X18_coins F sh n z1 337 y0 = some (z2, r) ∧ IV RV (q + 1) sh n z2 := by
  obtain ⟨h1, h2, h3⟩ := h
  have hb : n ≤ 10 ^ 12 := by omega
  obtain ⟨z1, z2, r, a, b, c, d⟩ := Top.both (C := fun z => fn_X11_coins 20002 sh n z 0 y0) (M := fun z => fn_X18_coins 20002 sh n z 337 y0) (fun z y t => m_coins' (F := 20002) (by omega) y0 t) (kC_coins y0) (kM_coins y0) hb h1 h2
  exact ⟨20002, z1, z2, r, a, b, c, d, by omega⟩
end
