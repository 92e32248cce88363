/-! THE REFERENCE'S LEDGER: settling, what is written -/
section
variable {F n : Nat} {sh : Nat → Nat × Nat} {z z' : St} {nc nr : Nat} {ac : Nat → Int64 × Int64 × Int64} {rs : Nat → Int64 × Nat × Hp × Nat} {H : Hp} {m na : Nat} {ak : Nat → Ask}
/-- a balance is written -/
theorem bal_t (h : RLg z nc ac nr rs) {i : Nat} (hi : i < nc) (b : Int64) : RLg (sl z 339 i b) nc (fun j => if j = i then ((ac j).1, b, (ac j).2.2) else ac j) nr rs ∧ FrG z (sl z 339 i b) := by
  obtain ⟨⟨a1, a2, a3⟩, b1, b2, b3⟩ := h
  refine ⟨⟨⟨a1, a2, fun j hj => ?_⟩, b1, b2, fun j hj => ?_⟩, ⟨rfl, fun k k1 k2 => ⟨rfl, by funext j; simp [sl_2, show k ≠ 339 by omega]⟩, fun _ _ _ _ => rfl, by funext j; simp [sl_2]⟩⟩
  · obtain ⟨x1, x2, x3⟩ := a3 j hj
    by_cases c : j = i
    · subst c
      simp only [if_true]
      exact ⟨by simp [sl_2]; exact x1, by simp [sl_2], by simp [sl_2]; exact x3⟩
    · simp only [if_neg c]
      exact ⟨by simp [sl_2]; exact x1, by simp [sl_2, c]; exact x2, by simp [sl_2]; exact x3⟩
  · obtain ⟨c1, c2, c3, c4, c5, c6⟩ := b3 j hj
    refine ⟨by simp [sl_2]; exact c1, c2, c3, c4, c5, fun w w1 w2 => ?_⟩
    obtain ⟨d0, d1, d2, d3, d4⟩ := c6 w w1 w2
    exact ⟨d0, d1, by simp [sl_2]; exact d2, by simp [sl_2]; exact d3, d4⟩
/-- an account at p -/
theorem setW1 (hF : 300 ≤ F) (hL : Lay sh n z) (ha : RAs z na ak) (hl : RLg z nc ac nr rs) {p f : Nat} (hp : p < na) (h1 : (ak p).1 = 1) (h : (ak p).2.2.2.2.1 = true) : (∀ x, fdA nc ac (ak p).2.1 = some x → ∃ z', fn_X18_settle_L80 F sh n 337 (f + 1) z (nI p) = fn_X18_settle_L80 F sh n 337 f z' (nI (p + 1)) ∧ RLg z' nc (fun j => if j = x then ((ac j).1, (ak p).2.2.2.1, (ac j).2.2) else ac j) nr rs ∧ FrG z z') ∧ (fdA nc ac (ak p).2.1 = none → nc < 256 → ∃ z', fn_X18_settle_L80 F sh n 337 (f + 1) z (nI p) = fn_X18_settle_L80 F sh n 337 f z' (nI (p + 1)) ∧ RLg z' (nc + 1) (fun j => if j = nc then ((ak p).2.1, (ak p).2.2.2.1, 0) else ac j) nr rs ∧ FrG z z') := by
  have ha' := ha
  obtain ⟨a1, a2, a3⟩ := ha
  obtain ⟨r1, r2, r3, r4, r5, r6⟩ := a3 p hp
  have ng : ¬ nI na ≤ nI p := fun q => by have := (nI_leI (by omega) (by omega)).mp q; omega
  have cp : (nI p).toNatClampNeg = p := nI_clamp (by omega)
  have ok : ∀ k w, 385 ≤ k → k ≤ 390 → shF k = (w, 24) → okA sh n k w (nI p) = true := fun k w k1 k2 e => by rw [lay_a hL k w 24 (by omega) e]; exact okI_nI (by omega) (by omega)
  have st : fn_X18_settle_L80 F sh n 337 (f + 1) z (nI p) = if (0 : Int32) ≤ oI (fdA nc ac (ak p).2.1) then fn_X18_settle_B153 F sh n 337 (nI p) 339 (fun z9 q1 => fn_X18_settle_L80 F sh n 337 f z9 q1) z (oI (fdA nc ac (ak p).2.1)) else cal (fn_X18_newAccount F sh n z 337 (ak p).2.1) (fun z_70 r_71 => fn_X18_settle_B153 F sh n 337 (nI p) 339 (fun z9 q1 => fn_X18_settle_L80 F sh n 337 f z9 q1) z_70 r_71) := by
    conv => lhs; unfold fn_X18_settle_L80
    rw [a1, if_neg ng, hL.2.2 337 35 390 rfl, lnk_s, ok 390 103 (by omega) (by omega) rfl, grd_true, cp, r5, h, if_neg (by decide), hL.2.2 337 30 385 rfl, lnk_s, ok 385 101 (by omega) (by omega) rfl, grd_true, r1, h1, if_neg (by decide), lnk_s, ok 385 101 (by omega) (by omega) rfl, grd_true, r1, h1, if_pos (by rfl), hL.2.2 337 31 386 rfl, lnk_s, ok 386 102 (by omega) (by omega) rfl, grd_true, r2, findA_t hF hL hl, cal_s, hL.2.2 337 1 339 rfl, lnk_s, hL.2.2 337 31 386 rfl, lnk_s, ok 386 102 (by omega) (by omega) rfl, grd_true, r2]
  have fin : ∀ {nc' : Nat} {ac' : Nat → Int64 × Int64 × Int64} {z1 : St} {i : Nat}, Lay sh n z1 → RAs z1 na ak → RLg z1 nc' ac' nr rs → i < nc' → fn_X18_settle_B153 F sh n 337 (nI p) 339 (fun z9 q1 => fn_X18_settle_L80 F sh n 337 f z9 q1) z1 (nI i) = fn_X18_settle_L80 F sh n 337 f (sl z1 339 i (ak p).2.2.2.1) (nI (p + 1)) := fun {nc' ac' z1 i} L1 R1 l1 hi => by
    have n256 := l1.1.2.1
    have oki : okA sh n 339 102 (nI i) = true := by rw [lay_a L1 339 102 256 (by omega) rfl]; exact okI_nI (by omega) (by omega)
    unfold fn_X18_settle_B153 fn_X18_settle_B234
    rw [L1.2.2 337 33 388 rfl, lnk_s, ok 388 102 (by omega) (by omega) rfl, grd_true, oki, grd_true, cp, (R1.2.2 p hp).2.2.2.1, nI_clamp (by omega), lt_t, nI_1]
  rw [st]
  constructor
  · intro x e
    obtain ⟨_, xl, _⟩ := fd_lt _ _ _ e
    have := hl.1.2.1
    obtain ⟨q1, q2⟩ := bal_t hl (i := x) (by omega) (ak p).2.2.2.1
    refine ⟨_, ?_, q1, q2⟩
    rw [e, if_pos (oI0 x (by omega)).1]
    exact fin hL ha' hl (by omega)
  · intro e hn
    obtain ⟨z1, w1, w2, w3⟩ := newA_t (F := F) hL hl hn (ak p).2.1
    obtain ⟨q1, q2⟩ := bal_t w2 (i := nc) (by omega) (ak p).2.2.2.1
    have ef : (fun j => if j = nc then (((fun i => if i = nc then ((ak p).2.1, (0 : Int64), (0 : Int64)) else ac i) j).1, (ak p).2.2.2.1, ((fun i => if i = nc then ((ak p).2.1, (0 : Int64), (0 : Int64)) else ac i) j).2.2) else (fun i => if i = nc then ((ak p).2.1, (0 : Int64), (0 : Int64)) else ac i) j) = fun j => if j = nc then ((ak p).2.1, (ak p).2.2.2.1, 0) else ac j := by
      funext j
      by_cases c : j = nc
      · simp [c]
      · simp [c]
    rw [ef] at q1
    refine ⟨_, ?_, q1, w3.trans q2⟩
    rw [e, if_neg (by decide), w1, cal_s]
    exact fin (hL.of w3.1) (w3.ras ha') w2 (by omega)
/-- a resource at p -/
theorem setW3 (hF : 300 ≤ F) (hL : Lay sh n z) (ha : RAs z na ak) (hl : RLg z nc ac nr rs) (hM : HM z H m) {p f : Nat} (hp : p < na) (h3 : (ak p).1 = 3) (hk : (ak p).2.2.1 < 2 ^ 31) (h : (ak p).2.2.2.2.1 = true) (tr : Tr H 48 (ak p).2.2.2.2.2) (hs : szM H 48 (ak p).2.2.2.2.2 ≤ 64) : (∀ x, fdR nr rs (ak p).2.1 (ak p).2.2.1 = some x → ∃ z' Q o, fn_X18_settle_L80 F sh n 337 (f + 1) z (nI p) = fn_X18_settle_L80 F sh n 337 f z' (nI (p + 1)) ∧ o 0 = (ak p).2.2.2.2.2 ∧ (∀ i, i < szM H 48 (ak p).2.2.2.2.2 → Alk H Q o i) ∧ RLg z' nc ac nr (fun i => if i = x then ((rs i).1, (rs i).2.1, Q, szM H 48 (ak p).2.2.2.2.2) else rs i) ∧ FrG z z') ∧ (fdR nr rs (ak p).2.1 (ak p).2.2.1 = none → nr < 256 → ∃ z' Q o, fn_X18_settle_L80 F sh n 337 (f + 1) z (nI p) = fn_X18_settle_L80 F sh n 337 f z' (nI (p + 1)) ∧ o 0 = (ak p).2.2.2.2.2 ∧ (∀ i, i < szM H 48 (ak p).2.2.2.2.2 → Alk H Q o i) ∧ RLg z' nc ac (nr + 1) (fun i => if i = nr then ((ak p).2.1, (ak p).2.2.1, Q, szM H 48 (ak p).2.2.2.2.2) else rs i) ∧ FrG z z') := by
  have ha' := ha
  obtain ⟨a1, a2, a3⟩ := ha
  obtain ⟨r1, r2, r3, r4, r5, r6⟩ := a3 p hp
  have ng : ¬ nI na ≤ nI p := fun q => by have := (nI_leI (by omega) (by omega)).mp q; omega
  have cp : (nI p).toNatClampNeg = p := nI_clamp (by omega)
  have ok : ∀ k w, 385 ≤ k → k ≤ 390 → shF k = (w, 24) → okA sh n k w (nI p) = true := fun k w k1 k2 e => by rw [lay_a hL k w 24 (by omega) e]; exact okI_nI (by omega) (by omega)
  have fin : ∀ {nr' : Nat} {rs' : Nat → Int64 × Nat × Hp × Nat} {z1 : St} {x : Nat}, Lay sh n z1 → RAs z1 na ak → HM z1 H m → RLx z1 nc ac nr' rs' x → x < nr' → ∃ z' Q o, fn_X18_settle_B223 F sh n 337 (nI p) (fun z9 q1 => fn_X18_settle_L80 F sh n 337 f z9 q1) z1 (nI x) = fn_X18_settle_L80 F sh n 337 f z' (nI (p + 1)) ∧ o 0 = (ak p).2.2.2.2.2 ∧ (∀ i, i < szM H 48 (ak p).2.2.2.2.2 → Alk H Q o i) ∧ RLg z' nc ac nr' (fun i => if i = x then ((rs' i).1, (rs' i).2.1, Q, szM H 48 (ak p).2.2.2.2.2) else rs' i) ∧ FrG z1 z' := fun {nr' rs' z1 x} L1 R1 M1 l1 hx => by
    obtain ⟨z', q1, q2, q3, Q, o, q4, q5, q6⟩ := keep_t (F := F) hF L1 l1 M1 hx tr hs
    refine ⟨z', Q, o, ?_, q4, q5, q6, q3⟩
    unfold fn_X18_settle_B223 fn_X18_settle_B234
    rw [L1.2.2 337 34 389 rfl, lnk_s, ok 389 101 (by omega) (by omega) rfl, grd_true, cp, (R1.2.2 p hp).2.2.2.2.2 h3 h, q1, cal_s, nI_1]
  constructor
  · intro x e
    obtain ⟨_, xl, _⟩ := fd_lt _ _ _ e
    have := hl.2.2.1
    obtain ⟨z', Q, o, w1, w2, w3, w4, w5⟩ := fin hL ha' hM (hl.ex x) (by omega)
    refine ⟨z', Q, o, ?_, w2, w3, w4, w5⟩
    conv => lhs; unfold fn_X18_settle_L80
    rw [a1, if_neg ng, hL.2.2 337 35 390 rfl, lnk_s, ok 390 103 (by omega) (by omega) rfl, grd_true, cp, r5, h, if_neg (by decide), hL.2.2 337 30 385 rfl, lnk_s, ok 385 101 (by omega) (by omega) rfl, grd_true, r1, h3, if_neg (by decide), lnk_s, ok 385 101 (by omega) (by omega) rfl, grd_true, r1, h3, if_neg (by decide), hL.2.2 337 31 386 rfl, lnk_s, ok 386 102 (by omega) (by omega) rfl, grd_true, hL.2.2 337 32 387 rfl, lnk_s, ok 387 101 (by omega) (by omega) rfl, grd_true, r2, r3, findR_t hF hL hl hk, cal_s, e, if_pos (oI0 x (by omega)).1]
    exact w1
  · intro e hn
    let z1 : St := si (si (sl z 343 nr (ak p).2.1) 344 nr (nI (ak p).2.2.1)) 337 9 (nI (nr + 1))
    have g1 : FrG z z1 := ⟨rfl, fun k k1 k2 => ⟨by funext j; simp [z1, si_1, sl_1, k1, show k ≠ 344 by omega], by funext j; simp [z1, si_2, sl_2, show k ≠ 343 by omega]⟩, fun j _ j9 _ => by simp [z1, si_1, sl_1, j9], by funext j; simp [z1, si_2, sl_2]⟩
    have L1 : Lay sh n z1 := hL.of rfl
    have l1 : RLx z1 nc ac (nr + 1) (fun i => if i = nr then ((ak p).2.1, (ak p).2.2.1, fun _ => (0, 0, 0, []), 0) else rs i) nr := by
      obtain ⟨⟨x1, x2, x3⟩, b1, b2, b3⟩ := hl
      refine ⟨⟨by simp [z1, si_1, sl_1]; exact x1, x2, fun i hi => ?_⟩, by simp [z1, si_1], by omega, fun i hi => ⟨?_, fun c => ?_⟩⟩
      · obtain ⟨y1, y2, y3⟩ := x3 i hi
        exact ⟨by simp [z1, si_2, sl_2]; exact y1, by simp [z1, si_2, sl_2]; exact y2, by simp [z1, si_2, sl_2]; exact y3⟩
      · by_cases c : i = nr
        · subst c
          simp only [if_true]
          exact ⟨by simp [z1, si_2, sl_2], by simp [z1, si_1, sl_1], hk⟩
        · simp only [if_neg c]
          obtain ⟨c1, c2, c3, _⟩ := b3 i (by omega)
          exact ⟨by simp [z1, si_2, sl_2, c]; exact c1, by simp [z1, si_1, sl_1, c]; exact c2, c3⟩
      · simp only [if_neg c]
        obtain ⟨_, _, _, c4, c5, c6⟩ := b3 i (by omega)
        refine ⟨c4, c5, fun w w1 w2 => ?_⟩
        obtain ⟨d0, d1, d2, d3, d4⟩ := c6 w w1 w2
        exact ⟨d0, by simp [z1, si_1, sl_1]; exact d1, by simp [z1, si_2, sl_2]; exact d2, by simp [z1, si_2, sl_2]; exact d3, by simp [z1, si_1, sl_1]; exact d4⟩
    obtain ⟨z', Q, o, w1, w2, w3, w4, w5⟩ := fin L1 (g1.ras ha') (g1.hm hM) l1 (by omega)
    have ef : (fun i => if i = nr then (((fun i => if i = nr then ((ak p).2.1, (ak p).2.2.1, (fun _ => (0, 0, 0, []) : Hp), 0) else rs i) i).1, ((fun i => if i = nr then ((ak p).2.1, (ak p).2.2.1, (fun _ => (0, 0, 0, []) : Hp), 0) else rs i) i).2.1, Q, szM H 48 (ak p).2.2.2.2.2) else (fun i => if i = nr then ((ak p).2.1, (ak p).2.2.1, (fun _ => (0, 0, 0, []) : Hp), 0) else rs i) i) = fun i => if i = nr then ((ak p).2.1, (ak p).2.2.1, Q, szM H 48 (ak p).2.2.2.2.2) else rs i := by
      funext i
      by_cases c : i = nr
      · simp [c]
      · simp [c]
    rw [ef] at w4
    refine ⟨z', Q, o, ?_, w2, w3, w4, g1.trans w5⟩
    have L2 : Lay sh n (sl z 343 nr (ak p).2.1) := hL.of rfl
    have n9 := hl.2.1
    have ok2 : ∀ k w, 343 ≤ k → k ≤ 344 → shF k = (w, 256) → okA sh n k w (nI nr) = true := fun k w k1 k2 e => by rw [lay_a hL k w 256 (by omega) e]; exact okI_nI hn (by omega)
    have c9 : (si (sl z 343 nr (ak p).2.1) 344 nr (nI (ak p).2.2.1)).1 337 9 = nI nr := by simp [si_1, sl_1]; exact n9
    conv => lhs; unfold fn_X18_settle_L80
    rw [a1, if_neg ng, hL.2.2 337 35 390 rfl, lnk_s, ok 390 103 (by omega) (by omega) rfl, grd_true, cp, r5, h, if_neg (by decide), hL.2.2 337 30 385 rfl, lnk_s, ok 385 101 (by omega) (by omega) rfl, grd_true, r1, h3, if_neg (by decide), lnk_s, ok 385 101 (by omega) (by omega) rfl, grd_true, r1, h3, if_neg (by decide), hL.2.2 337 31 386 rfl, lnk_s, ok 386 102 (by omega) (by omega) rfl, grd_true, hL.2.2 337 32 387 rfl, lnk_s, ok 387 101 (by omega) (by omega) rfl, grd_true, r2, r3, findR_t hF hL hl hk, cal_s, e, if_neg (by decide), n9, lt_t, hL.2.2 337 7 343 rfl, lnk_s, hL.2.2 337 31 386 rfl, lnk_s, ok 386 102 (by omega) (by omega) rfl, grd_true, ok2 343 102 (by omega) (by omega) rfl, grd_true, nI_clamp (by omega), r2, lt_t, L2.2.2 337 8 344 rfl, lnk_s, L2.2.2 337 32 387 rfl, lnk_s, ok 387 101 (by omega) (by omega) rfl, grd_true, ok2 344 101 (by omega) (by omega) rfl, grd_true, sl_1, r3, lt_t, c9, nI_1, lt_t]
    exact w1
end
