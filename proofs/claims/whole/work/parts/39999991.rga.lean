/-! THE REFERENCE'S LEDGER: places are asked for -/
theorem nI_ij {a b : Nat} (ha : a < 2 ^ 31) (hb : b < 2 ^ 31) : nI a = nI b ↔ a = b := ⟨fun q => by have := congrArg Int32.toNatClampNeg q; rwa [nI_clamp ha, nI_clamp hb] at this, fun q => by rw [q]⟩
/-- accounts (address, balance, number), resources (address, kind, tree, its size) -/
def RLg (z : St) (nc : Nat) (ac : Nat → Int64 × Int64 × Int64) (nr : Nat) (rs : Nat → Int64 × Nat × Hp × Nat) : Prop := (z.1 337 3 = nI nc ∧ nc ≤ 256 ∧ ∀ i, i < nc → z.2.1 338 i = (ac i).1 ∧ z.2.1 339 i = (ac i).2.1 ∧ z.2.1 340 i = (ac i).2.2) ∧ z.1 337 9 = nI nr ∧ nr ≤ 256 ∧ ∀ i, i < nr → z.2.1 343 i = (rs i).1 ∧ z.1 344 i = nI (rs i).2.1 ∧ (rs i).2.1 < 2 ^ 31 ∧ Pre (rs i).2.2.1 48 0 (rs i).2.2.2 ∧ (rs i).2.2.2 ≤ 64 ∧ Kep z (rs i).2.2.1 (64 * i) 0 (rs i).2.2.2
section
variable {F n : Nat} {sh : Nat → Nat × Nat} {z z' : St} {H : Hp} {m : Nat} {fr : Nat → Fm} {nf na : Nat} {ak : Nat → Ask} {g lim : Nat} {nc nr : Nat} {ac : Nat → Int64 × Int64 × Int64} {rs : Nat → Int64 × Nat × Hp × Nat}
theorem RLg.keep (h : RLg z nc ac nr rs) (f : FrR z z') : RLg z' nc ac nr rs := by
  have k : ∀ c, 338 ≤ c → c ≤ 348 → z'.1 c = z.1 c ∧ z'.2.1 c = z.2.1 c := fun c a b => f.2.1 c (by omega) (fun q => by unfold mcl at q; omega)
  have f3 : z'.1 337 3 = z.1 337 3 := (f.2.2 3 (by simp [mfl])).1
  have f9 : z'.1 337 9 = z.1 337 9 := (f.2.2 9 (by simp [mfl])).1
  obtain ⟨⟨a1, a2, a3⟩, b1, b2, b3⟩ := h
  refine ⟨⟨by rw [f3]; exact a1, a2, fun i hi => ?_⟩, by rw [f9]; exact b1, b2, fun i hi => ?_⟩
  · rw [(k 338 (by omega) (by omega)).2, (k 339 (by omega) (by omega)).2, (k 340 (by omega) (by omega)).2]; exact a3 i hi
  · rw [(k 343 (by omega) (by omega)).2, (k 344 (by omega) (by omega)).1]
    obtain ⟨c1, c2, c3, c4, c5, c6⟩ := b3 i hi
    refine ⟨c1, c2, c3, c4, c5, fun w w1 w2 => ?_⟩
    rw [(k 345 (by omega) (by omega)).1, (k 346 (by omega) (by omega)).2, (k 347 (by omega) (by omega)).2, (k 348 (by omega) (by omega)).1]
    exact c6 w w1 w2
def fdA (nc : Nat) (ac : Nat → Int64 × Int64 × Int64) (x : Int64) : Option Nat := fd (fun i => decide ((ac i).1 = x)) nc 0
def fdR (nr : Nat) (rs : Nat → Int64 × Nat × Hp × Nat) (x : Int64) (k : Nat) : Option Nat := fd (fun i => decide ((rs i).1 = x) && decide ((rs i).2.1 = k)) nr 0
theorem findA_L (hL : Lay sh n z) (h : RLg z nc ac nr rs) {x : Int64} : ∀ r p f, p + r = nc → r < f → fn_X18_findAccount_L2 F sh n 337 x f z (nI p) = some (z, oI (fd (fun i => decide ((ac i).1 = x)) r p)) := by
  obtain ⟨⟨a1, a2, a3⟩, _⟩ := h
  intro r
  induction r with
  | zero =>
    intro p f e hf
    obtain ⟨f', rfl⟩ : ∃ q, f = q + 1 := ⟨f - 1, by omega⟩
    unfold fn_X18_findAccount_L2 fn_X18_findAccount_B27
    simp only [b_model hL, grd_true, a1]
    rw [if_pos ((nI_leI (by omega) (by omega)).mpr (by omega)), if_pos ((nI_leI (by omega) (by omega)).mpr (by omega))]
    rfl
  | succ r ih =>
    intro p f e hf
    obtain ⟨f', rfl⟩ : ∃ q, f = q + 1 := ⟨f - 1, by omega⟩
    have ng : ¬ nI nc ≤ nI p := fun q => by have := (nI_leI (by omega) (by omega)).mp q; omega
    unfold fn_X18_findAccount_L2 fn_X18_findAccount_B27
    simp only [b_model hL, grd_true, a1, if_neg ng, lnk_s, okI_nI (show p < 256 by omega) (by omega), nI_clamp (n := p) (by omega), (a3 p (by omega)).1, nI_1]
    unfold fd
    by_cases c : (ac p).1 = x
    · rw [if_pos c, if_pos (by simp [c])]; rfl
    · rw [if_neg c, if_neg (by simp [c])]
      exact ih (p + 1) f' (by omega) (by omega)
theorem findA_t (hF : 300 ≤ F) (hL : Lay sh n z) (h : RLg z nc ac nr rs) {x : Int64} : fn_X18_findAccount F sh n z 337 x = some (z, oI (fdA nc ac x)) := findA_L hL h nc 0 F (by omega) (by have := h.1.2.1; omega)
theorem findR_L (hL : Lay sh n z) (h : RLg z nc ac nr rs) {x : Int64} {k : Nat} (hk : k < 2 ^ 31) : ∀ r p f, p + r = nr → r < f → fn_X18_findResource_L3 F sh n 337 x (nI k) f z (nI p) = some (z, oI (fd (fun i => decide ((rs i).1 = x) && decide ((rs i).2.1 = k)) r p)) := by
  obtain ⟨_, a1, a2, a3⟩ := h
  intro r
  induction r with
  | zero =>
    intro p f e hf
    obtain ⟨f', rfl⟩ : ∃ q, f = q + 1 := ⟨f - 1, by omega⟩
    unfold fn_X18_findResource_L3 fn_X18_findResource_B41
    simp only [b_model hL, grd_true, a1]
    rw [if_pos ((nI_leI (by omega) (by omega)).mpr (by omega)), if_pos ((nI_leI (by omega) (by omega)).mpr (by omega))]
    rfl
  | succ r ih =>
    intro p f e hf
    obtain ⟨f', rfl⟩ : ∃ q, f = q + 1 := ⟨f - 1, by omega⟩
    have ng : ¬ nI nr ≤ nI p := fun q => by have := (nI_leI (by omega) (by omega)).mp q; omega
    obtain ⟨c1, c2, c3, _⟩ := a3 p (by omega)
    unfold fn_X18_findResource_L3 fn_X18_findResource_B41 fn_X18_findResource_B35
    simp only [b_model hL, grd_true, a1, if_neg ng, lnk_s, okI_nI (show p < 256 by omega) (by omega), nI_clamp (n := p) (by omega), c1, c2, nI_1]
    have go := ih (p + 1) f' (by omega) (by omega)
    unfold fd
    by_cases c : (rs p).1 = x
    · rw [if_pos c]
      by_cases c' : (rs p).2.1 = k
      · rw [if_pos ((nI_ij c3 hk).mpr c'), if_pos (by simp [c, c'])]; rfl
      · rw [if_neg (fun q => c' ((nI_ij c3 hk).mp q)), if_neg (by simp [c'])]
        exact go
    · rw [if_neg c, if_neg (by simp [c])]
      exact go
theorem findR_t (hF : 300 ≤ F) (hL : Lay sh n z) (h : RLg z nc ac nr rs) {x : Int64} {k : Nat} (hk : k < 2 ^ 31) : fn_X18_findResource F sh n z 337 x (nI k) = some (z, oI (fdR nr rs x k)) := findR_L hL h hk nr 0 F (by omega) (by have := h.2.2.1; omega)
/-- a place is added -/
theorem RM.new (h : RM sh n z H m fr nf na ak g lim) (hn : na < 24) {x : Ask} {H' : Hp} {m' : Nat} (e0 : z'.2.2 = z.2.2) (e1 : ∀ k, k ≠ 337 → ¬ (349 ≤ k ∧ k ≤ 354) → ¬ (385 ≤ k ∧ k ≤ 390) → z'.1 k = z.1 k ∧ z'.2.1 k = z.2.1 k) (e2 : ∀ k j, 385 ≤ k → k ≤ 390 → j ≠ na → z'.1 k j = z.1 k j ∧ z'.2.1 k j = z.2.1 k j) (e3 : ∀ j, j ≠ 29 → j ≠ 14 → z'.1 337 j = z.1 337 j) (e3' : z'.2.1 337 = z.2.1 337) (e4 : z'.1 337 29 = nI (na + 1)) (hM : HM z' H' m') (r1 : z'.1 385 na = nI x.1) (r2 : z'.2.1 386 na = x.2.1) (r3 : z'.1 387 na = nI x.2.2.1) (r4 : z'.2.1 388 na = x.2.2.2.1) (r5 : z'.1 390 na = bI x.2.2.2.2.1) (r6 : x.1 = 3 → x.2.2.2.2.1 = true → z'.1 389 na = nI x.2.2.2.2.2) : RM sh n z' H' m' fr nf (na + 1) (upA ak na x) g lim ∧ FrR z z' := by
  obtain ⟨hL, hr, _, hf, ha, g1, g2, g3, g4⟩ := h
  refine ⟨⟨hL.of e0, by unfold Run; rw [e3 27 (by decide) (by decide)]; exact hr, hM, hf.of (e3 36 (by decide) (by decide)) (e3 45 (by decide) (by decide)) (fun c a b => (e1 c (by omega) (by omega) (by omega)).1), ⟨e4, by omega, fun j hj => ?_⟩, by rw [e3 26 (by decide) (by decide)]; exact g1, by rw [e3 25 (by decide) (by decide)]; exact g2, g3, g4⟩, ⟨e0, fun k k1 k2 => e1 k k1 (fun q => k2 (.inl q)) (fun q => k2 (.inr (.inr (by omega)))), fun j hj => ⟨e3 j (fun e => hj (by rw [e]; simp [mfl])) (fun e => hj (by rw [e]; simp [mfl])), by rw [e3']⟩⟩⟩
  by_cases q : j = na
  · subst q
    have : upA ak j x j = x := by simp [upA]
    rw [this]
    exact ⟨r1, r2, r3, r4, r5, r6⟩
  · have : upA ak na x j = ak j := by simp [upA, q]
    rw [this, (e2 385 j (by omega) (by omega) q).1, (e2 386 j (by omega) (by omega) q).2, (e2 387 j (by omega) (by omega) q).1, (e2 388 j (by omega) (by omega) q).2, (e2 389 j (by omega) (by omega) q).1, (e2 390 j (by omega) (by omega) q).1]
    exact ha.2.2 j (by omega)
def fdK (na : Nat) (ak : Nat → Ask) (s : Nat) (a : Int64) (k : Nat) : Nat → Nat → Option Nat := fd (fun j => decide ((ak j).1 = s) && (decide ((ak j).2.1 = a) && decide ((ak j).2.2.1 = k)))
theorem ask_L (hL : Lay sh n z) (h : RAs z na ak) (hb : ∀ j, j < na → (ak j).1 < 2 ^ 31 ∧ (ak j).2.2.1 < 2 ^ 31) {s k : Nat} {a : Int64} (hs : s < 2 ^ 31) (hk : k < 2 ^ 31) : ∀ r p f, p + r = na → r < f → (∀ j, fdK na ak s a k r p = some j → fn_X18_ask_L3 F sh n 337 (nI s) a (nI k) f z (nI p) = some (z, nI j)) ∧ (fdK na ak s a k r p = none → ∃ f', fn_X18_ask_L3 F sh n 337 (nI s) a (nI k) f z (nI p) = fn_X18_ask_L3 F sh n 337 (nI s) a (nI k) (f' + 1) z (nI na)) := by
  obtain ⟨a1, a2, a3⟩ := h
  intro r
  induction r with
  | zero =>
    intro p f e hf
    obtain ⟨f', rfl⟩ : ∃ q, f = q + 1 := ⟨f - 1, by omega⟩
    refine ⟨fun j hj => absurd hj (by simp [fdK, fd]), fun _ => ⟨f', by rw [show p = na by omega]⟩⟩
  | succ r ih =>
    intro p f e hf
    obtain ⟨f', rfl⟩ : ∃ q, f = q + 1 := ⟨f - 1, by omega⟩
    have ng : ¬ nI na ≤ nI p := fun q => by have := (nI_leI (by omega) (by omega)).mp q; omega
    obtain ⟨c1, c2, c3, _⟩ := a3 p (by omega)
    obtain ⟨b1, b2⟩ := hb p (by omega)
    obtain ⟨go1, go2⟩ := ih (p + 1) f' (by omega) (by omega)
    have key : ∀ b : Bool, (decide ((ak p).1 = s) && (decide ((ak p).2.1 = a) && decide ((ak p).2.2.1 = k))) = b → fdK na ak s a k (r + 1) p = if b then some p else fdK na ak s a k r (p + 1) := fun b hb => by
      show (if (decide ((ak p).1 = s) && (decide ((ak p).2.1 = a) && decide ((ak p).2.2.1 = k))) then some p else fdK na ak s a k r (p + 1)) = _
      rw [hb]
    have w : fn_X18_ask_L3 F sh n 337 (nI s) a (nI k) (f' + 1) z (nI p) = if (decide ((ak p).1 = s) && (decide ((ak p).2.1 = a) && decide ((ak p).2.2.1 = k))) then some (z, nI p) else fn_X18_ask_L3 F sh n 337 (nI s) a (nI k) f' z (nI (p + 1)) := by
      conv => lhs; unfold fn_X18_ask_L3
      unfold fn_X18_ask_B50
      simp only [b_model hL, grd_true, a1, if_neg ng, lnk_s, okI_nI (show p < 24 by omega) (by omega), nI_clamp (n := p) (by omega), c1, c2, c3, nI_1]
      by_cases x1 : (ak p).1 = s
      · rw [if_pos ((nI_ij b1 hs).mpr x1)]
        by_cases x2 : (ak p).2.1 = a
        · rw [if_pos x2]
          by_cases x3 : (ak p).2.2.1 = k
          · rw [if_pos ((nI_ij b2 hk).mpr x3), if_pos (by simp [x1, x2, x3])]
          · rw [if_neg (fun q => x3 ((nI_ij b2 hk).mp q)), if_neg (by simp [x3])]
        · rw [if_neg x2, if_neg (by simp [x2])]
      · rw [if_neg (fun q => x1 ((nI_ij b1 hs).mp q)), if_neg (by simp [x1])]
    rw [w]
    generalize hb' : (decide ((ak p).1 = s) && (decide ((ak p).2.1 = a) && decide ((ak p).2.2.1 = k))) = b at *
    rw [key b rfl]
    cases b with
    | true => exact ⟨fun j hj => by simp at hj; subst hj; simp, fun hj => by simp at hj⟩
    | false => exact ⟨fun j hj => by simp at hj ⊢; exact go1 j hj, fun hj => by simp at hj ⊢; exact go2 hj⟩
end
