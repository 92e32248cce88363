/-! THE REFERENCE'S LEDGER: a resource goes, an account comes -/
/-- what settling leaves alone -/
def FrG (z z' : St) : Prop := z'.2.2 = z.2.2 ∧ (∀ k, k ≠ 337 → ¬ (338 ≤ k ∧ k ≤ 348 ∧ k ≠ 341 ∧ k ≠ 342) → z'.1 k = z.1 k ∧ z'.2.1 k = z.2.1 k) ∧ (∀ j, j ≠ 3 → j ≠ 9 → j ≠ 14 → z'.1 337 j = z.1 337 j) ∧ z'.2.1 337 = z.2.1 337
theorem FrG.trans {z z' z'' : St} (h : FrG z z') (g : FrG z' z'') : FrG z z'' := ⟨g.1.trans h.1, fun k a b => ⟨(g.2.1 k a b).1.trans (h.2.1 k a b).1, (g.2.1 k a b).2.trans (h.2.1 k a b).2⟩, fun j a b c => (g.2.2.1 j a b c).trans (h.2.2.1 j a b c), g.2.2.2.trans h.2.2.2⟩
theorem PreL.all {P : Nat → Prop} {rec : Nat → Nat → Prop} (hr : ∀ a u, rec a u → ∀ w, a ≤ w → w < u → P w) : ∀ cs a b, PreL rec cs a b → ∀ w, a ≤ w → w < b → P w := by
  intro cs
  induction cs with
  | nil => intro a b h w w1 w2; have h : a = b := h; omega
  | cons c cs ih =>
    intro a b h w w1 w2
    obtain ⟨e, u, h1, h2⟩ := h
    by_cases q : w < u
    · exact hr a u h1 w w1 q
    · exact ih u b h2 w (by omega) w2
theorem Pre.kd {Q : Hp} : ∀ d v u, Pre Q d v u → ∀ w, v ≤ w → w < u → (Q w).1 ≠ 0 ∧ (Q w).1 < 8 := by
  intro d
  induction d with
  | zero => intro v u h; exact absurd h (by simp [Pre])
  | succ d ih =>
    intro v u h w w1 w2
    obtain ⟨p1, p2, _, p4⟩ := h
    by_cases q : w = v
    · rw [q]; exact ⟨p1, p2⟩
    · exact PreL.all (P := fun w => (Q w).1 ≠ 0 ∧ (Q w).1 < 8) ih _ _ _ p4 w (by omega) w2
theorem FrG.rfl' {z : St} : FrG z z := ⟨rfl, fun _ _ _ => ⟨rfl, rfl⟩, fun _ _ _ _ => rfl, rfl⟩
section
variable {F n : Nat} {sh : Nat → Nat × Nat} {z z' : St} {nc nr : Nat} {ac : Nat → Int64 × Int64 × Int64} {rs : Nat → Int64 × Nat × Hp × Nat}
/-- one place is copied -/
def rmS (z : St) (x l p : Nat) : St := si (sl (sl (si z 345 (64 * x + p) (vp_nar .byte (z.1 345 (64 * l + p)))) 346 (64 * x + p) (z.2.1 346 (64 * l + p))) 347 (64 * x + p) (z.2.1 347 (64 * l + p))) 348 (64 * x + p) (z.1 348 (64 * l + p))
theorem rm_n {x l p k j : Nat} (h : j ≠ 64 * x + p) : (rmS z x l p).1 k j = z.1 k j ∧ (rmS z x l p).2.1 k j = z.2.1 k j := by
  constructor <;> simp only [rmS, si_1, sl_1, si_2, sl_2, if_neg h] <;> (repeat' split) <;> first | rfl | (rename_i e; subst e; rfl) | (rename_i e _; subst e; rfl) | simp_all
theorem rm_k {x l p k : Nat} (h : ¬ (345 ≤ k ∧ k ≤ 348)) : (rmS z x l p).1 k = z.1 k ∧ (rmS z x l p).2.1 k = z.2.1 k := by
  have : k ≠ 345 ∧ k ≠ 346 ∧ k ≠ 347 ∧ k ≠ 348 := by omega
  constructor <;> funext j <;> simp [rmS, si_1, sl_1, si_2, sl_2, this]
theorem remL {x l : Nat} (hx : x ≤ l) (hl : l < 256) : ∀ r p f z0, p + r = 64 → r < f → Lay sh n z0 → z0.1 337 9 = nI l → ∃ z', fn_X18_removeResource_L42 F sh n 337 (nI x) f z0 (nI p) = some (z', ()) ∧ z'.2.2 = z0.2.2 ∧ (∀ k, ¬ (345 ≤ k ∧ k ≤ 348) → z'.1 k = z0.1 k ∧ z'.2.1 k = z0.2.1 k) ∧ (∀ k j, ¬ (64 * x + p ≤ j ∧ j < 64 * x + 64) → z'.1 k j = z0.1 k j ∧ z'.2.1 k j = z0.2.1 k j) ∧ ∀ i, p ≤ i → i < 64 → z'.1 345 (64 * x + i) = vp_nar .byte (z0.1 345 (64 * l + i)) ∧ z'.2.1 346 (64 * x + i) = z0.2.1 346 (64 * l + i) ∧ z'.2.1 347 (64 * x + i) = z0.2.1 347 (64 * l + i) ∧ z'.1 348 (64 * x + i) = z0.1 348 (64 * l + i) := by
  intro r
  induction r with
  | zero =>
    intro p f z0 e hf hL h9
    obtain ⟨f', rfl⟩ : ∃ q, f = q + 1 := ⟨f - 1, by omega⟩
    refine ⟨z0, ?_, rfl, fun _ _ => ⟨rfl, rfl⟩, fun _ _ _ => ⟨rfl, rfl⟩, fun i a b => by omega⟩
    unfold fn_X18_removeResource_L42
    rw [if_pos ((nIge (x := 64) 64 rfl (by omega) (by omega)).mpr (by omega))]
  | succ r ih =>
    intro p f z0 e hf hL h9
    obtain ⟨f', rfl⟩ : ∃ q, f = q + 1 := ⟨f - 1, by omega⟩
    have L1 : Lay sh n (rmS z0 x l p) := hL.of rfl
    have g9 : (rmS z0 x l p).1 337 9 = nI l := by rw [(rm_k (by omega)).1]; exact h9
    obtain ⟨z', q1, q2, q3, q4, q5⟩ := ih (p + 1) f' (rmS z0 x l p) (by omega) (by omega) L1 g9
    have own : (rmS z0 x l p).1 345 (64 * x + p) = vp_nar .byte (z0.1 345 (64 * l + p)) ∧ (rmS z0 x l p).2.1 346 (64 * x + p) = z0.2.1 346 (64 * l + p) ∧ (rmS z0 x l p).2.1 347 (64 * x + p) = z0.2.1 347 (64 * l + p) ∧ (rmS z0 x l p).1 348 (64 * x + p) = z0.1 348 (64 * l + p) := ⟨by simp [rmS, si_1, sl_1], by simp [rmS, si_2, sl_2], by simp [rmS, si_2, sl_2], by simp [rmS, si_1, sl_1]⟩
    refine ⟨z', ?_, q2, fun k hk => ⟨(q3 k hk).1.trans (rm_k hk).1, (q3 k hk).2.trans (rm_k hk).2⟩, fun k j hj => ?_, fun i i1 i2 => ?_⟩
    · have ex : (64 : Int32) * nI x + nI p = nI (64 * x + p) := by rw [show (64 : Int32) = nI 64 from rfl, pk_mul, nI_add]
      have el : (64 : Int32) * nI l + nI p = nI (64 * l + p) := by rw [show (64 : Int32) = nI 64 from rfl, pk_mul, nI_add]
      have cx : (nI (64 * x + p)).toNatClampNeg = 64 * x + p := nI_clamp (by omega)
      have cl : (nI (64 * l + p)).toNatClampNeg = 64 * l + p := nI_clamp (by omega)
      have ok : ∀ y k w, y ≤ l → 345 ≤ k → k ≤ 348 → shF k = (w, 16384) → okA sh n k w (nI (64 * y + p)) = true := fun y k w hy k1 k2 e => by rw [lay_a hL k w 16384 (by omega) e]; exact okI_nI (by omega) (by omega)
      have La : Lay sh n (si z0 345 (64 * x + p) (vp_nar .byte (z0.1 345 (64 * l + p)))) := hL.of rfl
      have Lb : Lay sh n (sl (si z0 345 (64 * x + p) (vp_nar .byte (z0.1 345 (64 * l + p)))) 346 (64 * x + p) (z0.2.1 346 (64 * l + p))) := hL.of rfl
      have Lc : Lay sh n (sl (sl (si z0 345 (64 * x + p) (vp_nar .byte (z0.1 345 (64 * l + p)))) 346 (64 * x + p) (z0.2.1 346 (64 * l + p))) 347 (64 * x + p) (z0.2.1 347 (64 * l + p))) := hL.of rfl
      have a9 : (si z0 345 (64 * x + p) (vp_nar .byte (z0.1 345 (64 * l + p)))).1 337 9 = nI l := by simp [si_1]; exact h9
      have b9 : (sl (si z0 345 (64 * x + p) (vp_nar .byte (z0.1 345 (64 * l + p)))) 346 (64 * x + p) (z0.2.1 346 (64 * l + p))).1 337 9 = nI l := by rw [sl_1]; exact a9
      have c9 : (sl (sl (si z0 345 (64 * x + p) (vp_nar .byte (z0.1 345 (64 * l + p)))) 346 (64 * x + p) (z0.2.1 346 (64 * l + p))) 347 (64 * x + p) (z0.2.1 347 (64 * l + p))).1 337 9 = nI l := by rw [sl_1]; exact b9
      have b347 : (sl (si z0 345 (64 * x + p) (vp_nar .byte (z0.1 345 (64 * l + p)))) 346 (64 * x + p) (z0.2.1 346 (64 * l + p))).2.1 347 (64 * l + p) = z0.2.1 347 (64 * l + p) := by simp [sl_2, si_2]
      have c348 : (sl (sl (si z0 345 (64 * x + p) (vp_nar .byte (z0.1 345 (64 * l + p)))) 346 (64 * x + p) (z0.2.1 346 (64 * l + p))) 347 (64 * x + p) (z0.2.1 347 (64 * l + p))).1 348 (64 * l + p) = z0.1 348 (64 * l + p) := by simp [sl_1, si_1]
      unfold fn_X18_removeResource_L42
      rw [if_neg (fun q => by have := (nIge (x := 64) 64 rfl (by omega) (by omega)).mp q; omega), hL.2.2 337 10 345 rfl, lnk_s, lnk_s, h9, ex, el, ok l 345 100 (Nat.le_refl _) (by omega) (by omega) rfl, grd_true, ok x 345 100 hx (by omega) (by omega) rfl, grd_true, cx, cl, lt_t]
      rw [La.2.2 337 11 346 rfl, lnk_s, lnk_s, a9, el, ok l 346 102 (Nat.le_refl _) (by omega) (by omega) rfl, grd_true, ok x 346 102 hx (by omega) (by omega) rfl, grd_true, cl, lt_t, si_2]
      rw [Lb.2.2 337 12 347 rfl, lnk_s, lnk_s, b9, el, ok l 347 102 (Nat.le_refl _) (by omega) (by omega) rfl, grd_true, ok x 347 102 hx (by omega) (by omega) rfl, grd_true, cl, b347, lt_t]
      rw [Lc.2.2 337 13 348 rfl, lnk_s, lnk_s, c9, el, ok l 348 101 (Nat.le_refl _) (by omega) (by omega) rfl, grd_true, ok x 348 101 hx (by omega) (by omega) rfl, grd_true, cl, c348, lt_t, nI_1]
      exact q1
    · obtain ⟨y1, y2⟩ := q4 k j (by omega)
      obtain ⟨w1, w2⟩ := rm_n (z := z0) (x := x) (l := l) (p := p) (k := k) (j := j) (by omega)
      exact ⟨y1.trans w1, y2.trans w2⟩
    · by_cases c : i = p
      · subst c
        rw [(q4 345 (64 * x + i) (by omega)).1, (q4 346 (64 * x + i) (by omega)).2, (q4 347 (64 * x + i) (by omega)).2, (q4 348 (64 * x + i) (by omega)).1]
        exact own
      · obtain ⟨y1, y2, y3, y4⟩ := q5 i (by omega) i2
        have nn : 64 * l + i ≠ 64 * x + p := by omega
        rw [y1, y2, y3, y4, (rm_n nn).1, (rm_n nn).2, (rm_n nn).2, (rm_n nn).1]
        exact ⟨rfl, rfl, rfl, rfl⟩
/-- a resource goes, the last one comes into its place -/
theorem remove_t (hF : 300 ≤ F) (hL : Lay sh n z) (h : RLg z nc ac nr rs) {x : Nat} (hx : x < nr) : ∃ z', fn_X18_removeResource F sh n z 337 (nI x) = some (z', ()) ∧ RLg z' nc ac (nr - 1) (fun i => if i = x then rs (nr - 1) else rs i) ∧ FrG z z' := by
  obtain ⟨⟨a1, a2, a3⟩, b1, b2, b3⟩ := h
  let z1 : St := si (sl (si z 337 9 (nI (nr - 1))) 343 x (z.2.1 343 (nr - 1))) 344 x (z.1 344 (nr - 1))
  have L1 : Lay sh n z1 := hL.of rfl
  have g9 : z1.1 337 9 = nI (nr - 1) := by simp [z1, si_1, sl_1]
  obtain ⟨z2, q1, q2, q3, q4, q5⟩ := remL (F := F) (show x ≤ nr - 1 by omega) (by omega) 64 0 F z1 (by omega) (by omega) L1 g9
  have k1 : ∀ k, k ≠ 337 → ¬ (343 ≤ k ∧ k ≤ 348) → z2.1 k = z.1 k ∧ z2.2.1 k = z.2.1 k := fun k x1 x2 => by
    rw [(q3 k (by omega)).1, (q3 k (by omega)).2]
    constructor <;> funext j <;> simp [z1, si_1, sl_1, si_2, sl_2, x1, show k ≠ 344 by omega, show k ≠ 343 by omega]
  have k2 : ∀ j, j ≠ 9 → z2.1 337 j = z.1 337 j := fun j hj => by rw [(q3 337 (by omega)).1]; simp [z1, si_1, sl_1, hj]
  have rows1 : ∀ k, 345 ≤ k → k ≤ 348 → z1.1 k = z.1 k ∧ z1.2.1 k = z.2.1 k := fun k x1 x2 => by
    constructor <;> funext j <;> simp [z1, si_1, sl_1, si_2, sl_2, show k ≠ 337 by omega, show k ≠ 344 by omega, show k ≠ 343 by omega]
  refine ⟨z2, ?_, ⟨⟨by rw [k2 3 (by decide)]; exact a1, a2, fun i hi => ?_⟩, by rw [(q3 337 (by omega)).1]; exact g9, by omega, fun i hi => ?_⟩, ⟨q2, fun k x1 x2 => k1 k x1 (by omega), fun j _ j9 _ => k2 j j9, by rw [(q3 337 (by omega)).2]; funext j; simp [z1, si_2, sl_2]⟩⟩
  · have e1 : nI nr - 1 = nI (nr - 1) := pk_sub (a := nr) (b := 1) (by omega)
    have La : Lay sh n (si z 337 9 (nI (nr - 1))) := hL.of rfl
    have Lb : Lay sh n (sl (si z 337 9 (nI (nr - 1))) 343 x (z.2.1 343 (nr - 1))) := hL.of rfl
    have a9 : (si z 337 9 (nI (nr - 1))).1 337 9 = nI (nr - 1) := by simp [si_1]
    have b9 : (sl (si z 337 9 (nI (nr - 1))) 343 x (z.2.1 343 (nr - 1))).1 337 9 = nI (nr - 1) := by simp [si_1, sl_1]
    have b344 : (sl (si z 337 9 (nI (nr - 1))) 343 x (z.2.1 343 (nr - 1))).1 344 (nr - 1) = z.1 344 (nr - 1) := by simp [si_1, sl_1]
    have ok : ∀ y k w, y < 256 → 343 ≤ k → k ≤ 344 → shF k = (w, 256) → okA sh n k w (nI y) = true := fun y k w hy k1 k2 e => by rw [lay_a hL k w 256 (by omega) e]; exact okI_nI hy (by omega)
    have cx : (nI x).toNatClampNeg = x := nI_clamp (by omega)
    have cl : (nI (nr - 1)).toNatClampNeg = nr - 1 := nI_clamp (by omega)
    unfold fn_X18_removeResource
    rw [(b_model hL).1, grd_true, b1, e1, lt_t, La.2.2 337 7 343 rfl, lnk_s, lnk_s, a9, ok (nr - 1) 343 102 (by omega) (by omega) (by omega) rfl, grd_true, ok x 343 102 (by omega) (by omega) (by omega) rfl, grd_true, cx, cl, lt_t, si_2]
    rw [Lb.2.2 337 8 344 rfl, lnk_s, lnk_s, b9, ok (nr - 1) 344 101 (by omega) (by omega) (by omega) rfl, grd_true, ok x 344 101 (by omega) (by omega) (by omega) rfl, grd_true, cl, b344, lt_t]
    exact q1
  · rw [(k1 338 (by omega) (by omega)).2, (k1 339 (by omega) (by omega)).2, (k1 340 (by omega) (by omega)).2]; exact a3 i hi
  · rw [(q3 343 (by omega)).2, (q3 344 (by omega)).1]
    by_cases c : i = x
    · subst c
      simp only [if_true]
      obtain ⟨c1, c2, c3, c4, c5, c6⟩ := b3 (nr - 1) (by omega)
      refine ⟨by simp [z1, si_2, sl_2]; exact c1, by simp [z1, si_1, sl_1]; exact c2, c3, c4, c5, fun w w1 w2 => ?_⟩
      obtain ⟨d0, d1, d2, d3, d4⟩ := c6 w w1 w2
      obtain ⟨y1, y2, y3, y4⟩ := q5 w (by omega) (by omega)
      have k8 : ((rs (nr - 1)).2.2.1 w).1 < 8 := (Pre.kd _ _ _ c4 w w1 w2).2
      rw [y1, y2, y3, y4, (rows1 345 (by omega) (by omega)).1, (rows1 346 (by omega) (by omega)).2, (rows1 347 (by omega) (by omega)).2, (rows1 348 (by omega) (by omega)).1, d1, nar_b8 _ k8]
      exact ⟨by omega, rfl, d2, d3, d4⟩
    · simp only [if_neg c]
      obtain ⟨c1, c2, c3, c4, c5, c6⟩ := b3 i (by omega)
      refine ⟨by simp [z1, si_2, sl_2, c]; exact c1, by simp [z1, si_1, sl_1, c]; exact c2, c3, c4, c5, fun w w1 w2 => ?_⟩
      have nn : ¬ (64 * x + 0 ≤ 64 * i + w ∧ 64 * i + w < 64 * x + 64) := by omega
      rw [(q4 345 _ nn).1, (q4 346 _ nn).2, (q4 347 _ nn).2, (q4 348 _ nn).1, (rows1 345 (by omega) (by omega)).1, (rows1 346 (by omega) (by omega)).2, (rows1 347 (by omega) (by omega)).2, (rows1 348 (by omega) (by omega)).1]
      exact c6 w w1 w2
/-- an account comes -/
theorem newA_t (hL : Lay sh n z) (h : RLg z nc ac nr rs) (hn : nc < 256) (a : Int64) : ∃ z', fn_X18_newAccount F sh n z 337 a = some (z', nI nc) ∧ RLg z' (nc + 1) (fun i => if i = nc then (a, 0, 0) else ac i) nr rs ∧ FrG z z' := by
  obtain ⟨⟨a1, a2, a3⟩, b1, b2, b3⟩ := h
  refine ⟨si (sl (sl (sl z 338 nc a) 339 nc 0) 340 nc 0) 337 3 (nI (nc + 1)), ?_, ⟨⟨by simp [si_1], by omega, fun i hi => ?_⟩, by simp [si_1, sl_1]; exact b1, b2, fun i hi => ?_⟩, ⟨rfl, fun k k1 k2 => ⟨?_, ?_⟩, fun j j3 _ _ => by simp [si_1, sl_1, j3], by funext j; simp [si_2, sl_2]⟩⟩
  · have La : Lay sh n (sl z 338 nc a) := hL.of rfl
    have Lb : Lay sh n (sl (sl z 338 nc a) 339 nc 0) := hL.of rfl
    have ok : ∀ k, 338 ≤ k → k ≤ 340 → shF k = (102, 256) → okA sh n k 102 (nI nc) = true := fun k k1 k2 e => by rw [lay_a hL k 102 256 (by omega) e]; exact okI_nI hn (by omega)
    have cn : (nI nc).toNatClampNeg = nc := nI_clamp (by omega)
    have f3 : (si (sl (sl (sl z 338 nc a) 339 nc 0) 340 nc 0) 337 3 (nI (nc + 1))).1 337 3 = nI (nc + 1) := by simp [si_1]
    unfold fn_X18_newAccount
    rw [(b_model hL).1, grd_true, hL.2.2 337 0 338 rfl, lnk_s, a1, ok 338 (by omega) (by omega) rfl, grd_true, cn, lt_t, La.2.2 337 1 339 rfl, lnk_s, sl_1, a1, ok 339 (by omega) (by omega) rfl, grd_true, cn, lt_t, Lb.2.2 337 2 340 rfl, lnk_s, sl_1, sl_1, a1, ok 340 (by omega) (by omega) rfl, grd_true, cn, lt_t, sl_1, sl_1, sl_1, a1, nI_1, lt_t, f3]
    have : nI (nc + 1) - 1 = nI nc := by have := pk_sub (a := nc + 1) (b := 1) (by omega); rw [Nat.add_sub_cancel] at this; exact this
    rw [this]
  · by_cases c : i = nc
    · subst c
      simp only [if_true]
      exact ⟨by simp [si_2, sl_2], by simp [si_2, sl_2], by simp [si_2, sl_2]⟩
    · simp only [if_neg c]
      obtain ⟨x1, x2, x3⟩ := a3 i (by omega)
      exact ⟨by simp [si_2, sl_2, c]; exact x1, by simp [si_2, sl_2, c]; exact x2, by simp [si_2, sl_2, c]; exact x3⟩
  · obtain ⟨c1, c2, c3, c4, c5, c6⟩ := b3 i hi
    refine ⟨by simp [si_2, sl_2]; exact c1, by simp [si_1, sl_1]; exact c2, c3, c4, c5, fun w w1 w2 => ?_⟩
    obtain ⟨d0, d1, d2, d3, d4⟩ := c6 w w1 w2
    exact ⟨d0, by simp [si_1, sl_1]; exact d1, by simp [si_2, sl_2]; exact d2, by simp [si_2, sl_2]; exact d3, by simp [si_1, sl_1]; exact d4⟩
  · funext j; simp [si_1, sl_1, k1]
  · funext j; simp [si_2, sl_2, show k ≠ 338 by omega, show k ≠ 339 by omega, show k ≠ 340 by omega]
end
