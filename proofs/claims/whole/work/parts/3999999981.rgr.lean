/-! THE REFERENCE'S LEDGER: too much -/
section
variable {F n : Nat} {sh : Nat → Nat × Nat} {z z' : St} {nc nr : Nat} {ac : Nat → Int64 × Int64 × Int64} {rs : Nat → Int64 × Nat × Hp × Nat} {H : Hp} {m na : Nat} {ak : Nat → Ask}
/-- was it there before -/
def wasT (nc : Nat) (ac : Nat → Int64 × Int64 × Int64) (nr : Nat) (rs : Nat → Int64 × Nat × Hp × Nat) (x : Ask) : Bool := if x.1 = 1 then (fdA nc ac x.2.1).isSome else if x.1 = 3 then (fdR nr rs x.2.1 x.2.2.1).isSome else false
def tmB (H : Hp) (x : Ask) : Bool := decide (x.1 = 3) && (x.2.2.2.2.1 && decide (64 < szM H 48 x.2.2.2.2.2))
def tmF (nc : Nat) (ac : Nat → Int64 × Int64 × Int64) (nr : Nat) (rs : Nat → Int64 × Nat × Hp × Nat) (H : Hp) (ak : Nat → Ask) : Nat → Nat → Int32 → Bool → Int32 × Bool
  | 0, _, c, b => (c, b)
  | r + 1, p, c, b => if (ak p).1 = 2 then tmF nc ac nr rs H ak r (p + 1) c b else tmF nc ac nr rs H ak r (p + 1) (c + (bI (ak p).2.2.2.2.1 - bI (wasT nc ac nr rs (ak p)))) (b || tmB H (ak p))
def tmE (nc md nr : Nat) (x : Int32 × Bool) : Int32 := if x.2 then 1 else if nI (nc + md + nr) + x.1 ≤ 256 then 0 else 1
theorem oIs {o : Option Nat} (h : ∀ i, o = some i → i < 2 ^ 31) : (oI o < 0) ↔ o.isSome = false := by
  cases o with
  | none => simp [oI]
  | some i => exact ⟨fun q => absurd q (oI0 i (h i rfl)).2, fun q => by simp at q⟩
theorem fdA_b {a : Int64} {i : Nat} (hn : nc ≤ 256) (h : fdA nc ac a = some i) : i < 2 ^ 31 := by have := (fd_lt _ _ _ h).2.1; omega
theorem fdR_b {a : Int64} {k i : Nat} (hn : nr ≤ 256) (h : fdR nr rs a k = some i) : i < 2 ^ 31 := by have := (fd_lt _ _ _ h).2.1; omega
theorem tm_L (hF : 300 ≤ F) (hL : Lay sh n z) (ha : RAs z na ak) (hl : RLg z nc ac nr rs) (hM : HM z H m) {md : Nat} (h5 : z.1 337 5 = nI md) (hk : AkB na ak) (ht : ∀ p, p < na → (ak p).1 = 3 → (ak p).2.2.2.2.1 = true → Tr H 48 (ak p).2.2.2.2.2 ∧ szM H 48 (ak p).2.2.2.2.2 < 2 ^ 31) : ∀ r p f c b, p + r = na → r < f → fn_X18_isTooMuch_L6 F sh n 337 f z c (bI b) (nI p) = some (z, tmE nc md nr (tmF nc ac nr rs H ak r p c b)) := by
  obtain ⟨a1, a2, a3⟩ := ha
  intro r
  induction r with
  | zero =>
    intro p f c b e hf
    obtain ⟨f', rfl⟩ : ∃ q, f = q + 1 := ⟨f - 1, by omega⟩
    unfold fn_X18_isTooMuch_L6 tmF tmE
    rw [(b_model hL).1, grd_true, a1, if_pos ((nI_leI (by omega) (by omega)).mpr (by omega))]
    cases b with
    | true => rw [if_neg (by decide), if_pos rfl]
    | false =>
      rw [if_pos (by decide), if_neg (show ¬ ((c, false) : Int32 × Bool).2 = true by simp)]
      unfold fn_X18_placeCount
      rw [(b_model hL).1, grd_true, cal_s, hl.1.1, h5, hl.2.1, nI_add, nI_add]
      by_cases q : nI (nc + md + nr) + c ≤ 256
      · rw [if_pos q, if_pos q]
      · rw [if_neg q, if_neg q]
  | succ r ih =>
    intro p f c b e hf
    obtain ⟨f', rfl⟩ : ∃ q, f = q + 1 := ⟨f - 1, by omega⟩
    obtain ⟨r1, r2, r3, r4, r5, r6⟩ := a3 p (by omega)
    obtain ⟨k1, k2⟩ := hk p (by omega)
    have ng : ¬ nI na ≤ nI p := fun q => by have := (nI_leI (by omega) (by omega)).mp q; omega
    have cp : (nI p).toNatClampNeg = p := nI_clamp (by omega)
    have ok : ∀ k w, 385 ≤ k → k ≤ 390 → shF k = (w, 24) → okA sh n k w (nI p) = true := fun k w k1 k2 e => by rw [lay_a hL k w 24 (by omega) e]; exact okI_nI (by omega) (by omega)
    have i1 : nI (ak p).1 = 1 ↔ (ak p).1 = 1 := nI_ij (b := 1) k1 (by omega)
    have i2 : nI (ak p).1 = 2 ↔ (ak p).1 = 2 := nI_ij (b := 2) k1 (by omega)
    have i3 : nI (ak p).1 = 3 ↔ (ak p).1 = 3 := nI_ij (b := 3) k1 (by omega)
    let K : St → Int32 → Int32 → Int32 → Option (St × Int32) := fun z9 q1 q2 q3 => fn_X18_isTooMuch_L6 F sh n 337 f' z9 q1 q2 q3
    have go : ∀ c b, K z c (bI b) (nI p + 1) = some (z, tmE nc md nr (tmF nc ac nr rs H ak r (p + 1) c b)) := fun c b => by
      rw [nI_1]; exact ih (p + 1) f' c b (by omega) (by omega)
    -- the rest, when it is known whether it was there
    have rest : ∀ w : Bool, (ak p).1 = 2 ∨ w = wasT nc ac nr rs (ak p) → fn_X18_isTooMuch_B79 F sh n 337 (nI p) c (bI b) K z (bI w) = some (z, tmE nc md nr (tmF nc ac nr rs H ak (r + 1) p c b)) := fun w hw => by
      unfold fn_X18_isTooMuch_B79
      rw [hL.2.2 337 30 385 rfl, lnk_s, ok 385 101 (by omega) (by omega) rfl, grd_true, cp, r1]
      by_cases c2 : (ak p).1 = 2
      · rw [if_pos (i2.mpr c2)]
        unfold fn_X18_isTooMuch_B169
        rw [show tmF nc ac nr rs H ak (r + 1) p c b = tmF nc ac nr rs H ak r (p + 1) c b from if_pos c2]
        exact go c b
      · have hw' := hw.resolve_left c2
        have e119 : fn_X18_isTooMuch_B119 F sh n c (bI (ak p).2.2.2.2.1) (bI b) 337 (nI p) K z (bI w) = some (z, tmE nc md nr (tmF nc ac nr rs H ak (r + 1) p c b)) := by
          rw [show tmF nc ac nr rs H ak (r + 1) p c b = tmF nc ac nr rs H ak r (p + 1) (c + (bI (ak p).2.2.2.2.1 - bI (wasT nc ac nr rs (ak p)))) (b || tmB H (ak p)) from if_neg c2, ← hw']
          have g2 := go (c + (bI (ak p).2.2.2.2.1 - bI w))
          unfold fn_X18_isTooMuch_B119
          rw [lt_t]
          generalize c + (bI (ak p).2.2.2.2.1 - bI w) = cc at g2 ⊢
          have t1 : fn_X18_isTooMuch_B163 F sh n (nI p) cc K z = some (z, tmE nc md nr (tmF nc ac nr rs H ak r (p + 1) cc true)) := by
            unfold fn_X18_isTooMuch_B163 fn_X18_isTooMuch_B168 fn_X18_isTooMuch_B169
            exact g2 true
          have t0 : fn_X18_isTooMuch_B167 F sh n (nI p) cc K z = some (z, tmE nc md nr (tmF nc ac nr rs H ak r (p + 1) cc false)) := by
            unfold fn_X18_isTooMuch_B167 fn_X18_isTooMuch_B168 fn_X18_isTooMuch_B169
            exact g2 false
          cases b with
          | true =>
            rw [if_neg (by decide), Bool.true_or]
            exact t1
          | false =>
            rw [if_pos (by decide), Bool.false_or, hL.2.2 337 30 385 rfl, lnk_s, ok 385 101 (by omega) (by omega) rfl, grd_true, cp, r1]
            by_cases c3 : (ak p).1 = 3
            · rw [if_pos (i3.mpr c3), hL.2.2 337 35 390 rfl, lnk_s, ok 390 103 (by omega) (by omega) rfl, grd_true, r5]
              cases hth : (ak p).2.2.2.2.1 with
              | false =>
                rw [if_pos (by decide), show tmB H (ak p) = false by simp [tmB, hth]]
                exact t0
              | true =>
                obtain ⟨tr, sz⟩ := ht p (by omega) c3 hth
                rw [if_neg (by decide), hL.2.2 337 15 349 rfl, lnk_s, hL.2.2 337 34 389 rfl, lnk_s, ok 389 101 (by omega) (by omega) rfl, grd_true, (b_trees hL).1, grd_true, r6 c3 hth, sizeM_t hF hL hM 48 _ 48 tr (Nat.le_refl _), cal_s]
                by_cases c64 : szM H 48 (ak p).2.2.2.2.2 ≤ 64
                · have le : nI (szM H 48 (ak p).2.2.2.2.2) ≤ 64 := (nI_leI (b := 64) sz (by omega)).mpr c64
                  rw [if_pos le, show tmB H (ak p) = false by simp [tmB, c64]]
                  exact t0
                · have le : ¬ nI (szM H 48 (ak p).2.2.2.2.2) ≤ 64 := fun q => c64 ((nI_leI (b := 64) sz (by omega)).mp q)
                  rw [if_neg le, show tmB H (ak p) = true by simp [tmB, c3, hth]; omega]
                  exact t1
            · rw [if_neg (fun q => c3 (i3.mp q)), show tmB H (ak p) = false by simp [tmB, c3]]
              exact t0
        rw [if_neg (fun q => c2 (i2.mp q)), hL.2.2 337 35 390 rfl, lnk_s, ok 390 103 (by omega) (by omega) rfl, grd_true, r5]
        unfold fn_X18_isTooMuch_B109
        cases hth : (ak p).2.2.2.2.1 with
        | false =>
          rw [hth] at e119
          rw [if_pos (by decide)]
          cases w with
          | false => rw [if_pos (by decide)]; exact e119
          | true => rw [if_neg (by decide)]; exact e119
        | true =>
          rw [hth] at e119
          rw [if_neg (by decide)]
          cases w with
          | false => rw [if_pos (by decide)]; exact e119
          | true => rw [if_neg (by decide)]; exact e119
    conv => lhs; unfold fn_X18_isTooMuch_L6
    rw [(b_model hL).1, grd_true, a1, if_neg ng, hL.2.2 337 30 385 rfl, lnk_s, ok 385 101 (by omega) (by omega) rfl, grd_true, cp, r1]
    have n1 := hl.1.2.1
    have n2 := hl.2.2.1
    by_cases c1 : (ak p).1 = 1
    · have wt : wasT nc ac nr rs (ak p) = (fdA nc ac (ak p).2.1).isSome := if_pos c1
      rw [if_pos (i1.mpr c1), hL.2.2 337 31 386 rfl, lnk_s, ok 386 102 (by omega) (by omega) rfl, grd_true, r2, findA_t hF hL hl, cal_s]
      have iff := oIs (o := fdA nc ac (ak p).2.1) (fun i hi => fdA_b n1 hi)
      cases hs : (fdA nc ac (ak p).2.1).isSome with
      | false => rw [if_pos (iff.mpr hs)]; exact rest false (.inr (by rw [wt, hs]))
      | true => rw [if_neg (fun q => by have := iff.mp q; rw [hs] at this; exact absurd this (by decide))]; exact rest true (.inr (by rw [wt, hs]))
    · rw [if_neg (fun q => c1 (i1.mp q)), lnk_s, ok 385 101 (by omega) (by omega) rfl, grd_true, r1]
      by_cases c3 : (ak p).1 = 3
      · have wt : wasT nc ac nr rs (ak p) = (fdR nr rs (ak p).2.1 (ak p).2.2.1).isSome := by unfold wasT; rw [if_neg c1, if_pos c3]
        rw [if_pos (i3.mpr c3), hL.2.2 337 31 386 rfl, lnk_s, ok 386 102 (by omega) (by omega) rfl, grd_true, hL.2.2 337 32 387 rfl, lnk_s, ok 387 101 (by omega) (by omega) rfl, grd_true, r2, r3, findR_t hF hL hl k2, cal_s]
        have iff := oIs (o := fdR nr rs (ak p).2.1 (ak p).2.2.1) (fun i hi => fdR_b n2 hi)
        cases hs : (fdR nr rs (ak p).2.1 (ak p).2.2.1).isSome with
        | false =>
          rw [if_pos (iff.mpr hs)]
          unfold fn_X18_isTooMuch_B78
          exact rest false (.inr (by rw [wt, hs]))
        | true => rw [if_neg (fun q => by have := iff.mp q; rw [hs] at this; exact absurd this (by decide))]; exact rest true (.inr (by rw [wt, hs]))
      · rw [if_neg (fun q => c3 (i3.mp q))]
        unfold fn_X18_isTooMuch_B78
        exact rest false (.inr (by unfold wasT; rw [if_neg c1, if_neg c3]))
theorem tooMuch_t (hF : 300 ≤ F) (hL : Lay sh n z) (ha : RAs z na ak) (hl : RLg z nc ac nr rs) (hM : HM z H m) {md : Nat} (h5 : z.1 337 5 = nI md) (hk : AkB na ak) (ht : ∀ p, p < na → (ak p).1 = 3 → (ak p).2.2.2.2.1 = true → Tr H 48 (ak p).2.2.2.2.2 ∧ szM H 48 (ak p).2.2.2.2.2 < 2 ^ 31) : fn_X18_isTooMuch F sh n z 337 = some (z, tmE nc md nr (tmF nc ac nr rs H ak na 0 0 false)) := tm_L hF hL ha hl hM h5 hk ht na 0 F 0 false (by omega) (by have := ha.2.1; omega)
end
