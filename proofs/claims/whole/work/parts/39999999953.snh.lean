/-! THE REFERENCE'S MACHINE: places that are asked for before a frame is there -/
def RP (sh : Nat → Nat × Nat) (n : Nat) (z : St) (H : Hp) (m na : Nat) (ak : Nat → Ask) (g lim : Nat) : Prop := Lay sh n z ∧ Run z ∧ HM z H m ∧ True ∧ RAs z na ak ∧ z.1 337 26 = nI g ∧ z.1 337 25 = nI lim ∧ g ≤ lim ∧ lim ≤ 20000
section
variable {F n : Nat} {sh : Nat → Nat × Nat} {z z' : St} {H : Hp} {m : Nat} {na : Nat} {ak : Nat → Ask} {g lim : Nat} {nc nr : Nat} {ac : Nat → Int64 × Int64 × Int64} {rs : Nat → Int64 × Nat × Hp × Nat}
theorem RP.new (h : RP sh n z H m na ak g lim) (hn : na < 24) {x : Ask} {H' : Hp} {m' : Nat} (e0 : z'.2.2 = z.2.2) (e1 : ∀ k, k ≠ 337 → ¬ (349 ≤ k ∧ k ≤ 354) → ¬ (385 ≤ k ∧ k ≤ 390) → z'.1 k = z.1 k ∧ z'.2.1 k = z.2.1 k) (e2 : ∀ k j, 385 ≤ k → k ≤ 390 → j ≠ na → z'.1 k j = z.1 k j ∧ z'.2.1 k j = z.2.1 k j) (e3 : ∀ j, j ≠ 29 → j ≠ 14 → z'.1 337 j = z.1 337 j) (e3' : z'.2.1 337 = z.2.1 337) (e4 : z'.1 337 29 = nI (na + 1)) (hM : HM z' H' m') (r1 : z'.1 385 na = nI x.1) (r2 : z'.2.1 386 na = x.2.1) (r3 : z'.1 387 na = nI x.2.2.1) (r4 : z'.2.1 388 na = x.2.2.2.1) (r5 : z'.1 390 na = bI x.2.2.2.2.1) (r6 : x.1 = 3 → x.2.2.2.2.1 = true → z'.1 389 na = nI x.2.2.2.2.2) : RP sh n z' H' m' (na + 1) (upA ak na x) g lim ∧ FrR z z' := by
  obtain ⟨hL, hr, _, hf, ha, g1, g2, g3, g4⟩ := h
  refine ⟨⟨hL.of e0, by unfold Run; rw [e3 27 (by decide) (by decide)]; exact hr, hM, trivial, ⟨e4, by omega, fun j hj => ?_⟩, by rw [e3 26 (by decide) (by decide)]; exact g1, by rw [e3 25 (by decide) (by decide)]; exact g2, g3, g4⟩, ⟨e0, fun k k1 k2 => e1 k k1 (fun q => k2 (.inl q)) (fun q => k2 (.inr (.inr (by omega)))), fun j hj => ⟨e3 j (fun e => hj (by rw [e]; simp [mfl])) (fun e => hj (by rw [e]; simp [mfl])), by rw [e3']⟩⟩⟩
  by_cases q : j = na
  · subst q
    have : upA ak j x j = x := by simp [upA]
    rw [this]
    exact ⟨r1, r2, r3, r4, r5, r6⟩
  · have : upA ak na x j = ak j := by simp [upA, q]
    rw [this, (e2 385 j (by omega) (by omega) q).1, (e2 386 j (by omega) (by omega) q).2, (e2 387 j (by omega) (by omega) q).1, (e2 388 j (by omega) (by omega) q).2, (e2 389 j (by omega) (by omega) q).1, (e2 390 j (by omega) (by omega) q).1]
    exact ha.2.2 j (by omega)
theorem RP.tail (hF : 300 ≤ F) (h : RP sh n z H m na ak g lim) (hb : ∀ j, j < na → (ak j).1 < 2 ^ 31 ∧ (ak j).2.2.1 < 2 ^ 31) {s k : Nat} {a : Int64} (hs : s < 2 ^ 31) (hk : k < 2 ^ 31) (e : fdK na ak s a k na 0 = none) (hn : na < 24) : fn_X18_ask F sh n z 337 (nI s) a (nI k) = if (nI s : Int32) = 1 then cal (fn_X18_findAccount F sh n (azS z na s a k) 337 a) (fun z_61 r_62 => fn_X18_ask_B138 F sh n (nI s) 337 a (nI k) (nI na) z_61 r_62) else fn_X18_ask_B138 F sh n (nI s) 337 a (nI k) (nI na) (azS z na s a k) (-1) := by
  obtain ⟨f', w⟩ := (ask_L (F := F) h.1 h.2.2.2.2.1 hb hs hk na 0 F (by omega) (by have := h.2.2.2.2.1.2.1; omega)).2 e
  have hL := h.1
  have n24 : ¬ nI na = 24 := fun q => by have := (nI_ij (a := na) (b := 24) (by omega) (by omega)).mp q; omega
  have L1 : Lay sh n (si z 337 29 (nI (na + 1))) := hL.of rfl
  unfold fn_X18_ask
  rw [show (0 : Int32) = nI 0 from rfl, w]
  conv => lhs; unfold fn_X18_ask_L3
  simp only [b_model hL, grd_true, h.2.2.2.2.1.1, if_neg n24, lt_t, nI_1]
  rw [if_pos ((nI_leI (by omega) (by omega)).mpr (Nat.le_refl _))]
  simp only [si_3, sl_3, b_model hL, lnk_s, okI_nI hn (by omega), nI_clamp (n := na) (by omega), grd_true, lt_t]
  rfl
theorem RP.azN (h : RP sh n z H m na ak g lim) (hn : na < 24) {s k : Nat} {a b : Int64} {th : Bool} (h3 : s = 3 → th = false) : RP sh n (azE z na s a k th b) H m (na + 1) (upA ak na (s, a, k, b, th, 0)) g lim ∧ FrR z (azE z na s a k th b) := by
  refine h.new hn rfl (fun c c1 c2 c3 => ae1 c1 c3) (fun c j c1 c2 c3 => ae4 c1 c2 c3) (fun j j1 _ => ae2 j1) ae3 ?_ (h.2.2.1.fr (fun c a b => (ae1 (by omega) (by omega)).1) (fun c a b => (ae1 (by omega) (by omega)).2)) ?_ ?_ ?_ ?_ ?_ (fun q r => absurd (h3 q) (by simp only at r; rw [r]; simp))
  all_goals simp [azE, azS, si_1, si_2, sl_1, sl_2]
theorem RP.ask1 (hF : 300 ≤ F) (h : RP sh n z H m na ak g lim) (hl : RLg z nc ac nr rs) (hb : ∀ j, j < na → (ak j).1 < 2 ^ 31 ∧ (ak j).2.2.1 < 2 ^ 31) {a : Int64} (e : fdK na ak 1 a 0 na 0 = none) (hn : na < 24) : ∃ z', fn_X18_ask F sh n z 337 1 a 0 = some (z', nI na) ∧ RP sh n z' H m (na + 1) (upA ak na (1, a, 0, acB nc ac a, acT nc ac a, 0)) g lim ∧ FrR z z' := by
  obtain ⟨w1, w2⟩ := h.azN hn (s := 1) (k := 0) (a := a) (b := acB nc ac a) (th := acT nc ac a) (fun q => by omega)
  refine ⟨_, ?_, w1, w2⟩
  have L2 : Lay sh n (azS z na 1 a 0) := h.1.of rfl
  have t := RP.tail (F := F) hF h hb (s := 1) (k := 0) (a := a) (by omega) (by omega) e hn
  rw [show (1 : Int32) = nI 1 from rfl, show (0 : Int32) = nI 0 from rfl, t, if_pos (by rfl), findA_t hF L2 (hl.keep az_fr), cal_s]
  unfold fn_X18_ask_B138
  rw [if_neg (by decide)]
  unfold fn_X18_ask_B156
  rw [L2.2.2 337 35 390 rfl, lnk_s]
  have L3 : ∀ b, Lay sh n (si (azS z na 1 a 0) 390 na b) := fun b => h.1.of rfl
  have l339 : ∀ b, (si (azS z na 1 a 0) 390 na b).2.1 339 = z.2.1 339 := fun b => by rw [si_2]; exact (az1 (by omega) (by omega)).2
  cases hc : fdA nc ac a with
  | none =>
    have ht : acT nc ac a = false := by unfold acT; rw [hc]; rfl
    have hB : acB nc ac a = 0 := by unfold acB; rw [hc]
    rw [ht, hB]
    rw [if_neg (by decide), if_pos (by decide)]
    unfold fn_X18_ask_B179
    simp only [b_model L2, grd_true, okI_nI hn (by omega), nI_clamp (n := na) (by omega), lt_t, show vp_nar .boolean 0 = bI false from rfl, b_model (L3 (bI false)), lnk_s]
    rw [if_pos (by decide)]
    unfold fn_X18_ask_B202
    simp only [b_model L2, grd_true, okI_nI hn (by omega), nI_clamp (n := na) (by omega), lt_t]
    rw [if_pos (by decide)]
    rfl
  | some i =>
    obtain ⟨_, ilt, _⟩ := fd_lt _ _ _ hc
    have i256 := hl.1.2.1
    have ht : acT nc ac a = true := by unfold acT; rw [hc]; rfl
    have hB : acB nc ac a = (ac i).2.1 := by unfold acB; rw [hc]
    rw [ht, hB]
    obtain ⟨o1, o2⟩ := oI0 i (by omega)
    rw [if_pos o1]
    unfold fn_X18_ask_B174 fn_X18_ask_B179
    simp only [b_model L2, grd_true, okI_nI hn (by omega), nI_clamp (n := na) (by omega), lt_t, show vp_nar .boolean 1 = bI true from rfl, b_model (L3 (bI true)), lnk_s]
    rw [if_neg o2, show oI (some i) = nI i from rfl, okI_nI (show i < 256 by omega) (by omega), grd_true, nI_clamp (by omega), l339, (hl.1.2.2 i (by omega)).2.1]
    unfold fn_X18_ask_B202
    simp only [b_model L2, grd_true, okI_nI hn (by omega), nI_clamp (n := na) (by omega), lt_t]
    rw [if_pos (by decide)]
    rfl
theorem RP.ask0 (hF : 300 ≤ F) (h : RP sh n z H m na ak g lim) (hl : RLg z nc ac nr rs) (hb : ∀ j, j < na → (ak j).1 < 2 ^ 31 ∧ (ak j).2.2.1 < 2 ^ 31) {s k : Nat} {a : Int64} (hk : k < 2 ^ 31) (hs : s = 2 ∨ (s = 3 ∧ fdR nr rs a k = none)) (e : fdK na ak s a k na 0 = none) (hn : na < 24) : ∃ z', fn_X18_ask F sh n z 337 (nI s) a (nI k) = some (z', nI na) ∧ RP sh n z' H m (na + 1) (upA ak na (s, a, k, 0, false, 0)) g lim ∧ FrR z z' := by
  obtain ⟨w1, w2⟩ := h.azN hn (s := s) (k := k) (a := a) (b := 0) (th := false) (fun q => rfl)
  refine ⟨_, ?_, w1, w2⟩
  have L2 : Lay sh n (azS z na s a k) := h.1.of rfl
  have L3 : ∀ b, Lay sh n (si (azS z na s a k) 390 na b) := fun b => h.1.of rfl
  have t := RP.tail (F := F) hF h hb (s := s) (k := k) (a := a) (by omega) hk e hn
  have s1 : ¬ nI s = 1 := fun q => by have := (nI_ij (a := s) (b := 1) (by omega) (by omega)).mp q; omega
  have tl : fn_X18_ask_B156 F sh n 337 (-1) (nI na) (azS z na s a k) (-1) = some (azE z na s a k false 0, nI na) := by
    unfold fn_X18_ask_B156
    rw [L2.2.2 337 35 390 rfl, lnk_s, if_neg (by decide), if_pos (by decide)]
    unfold fn_X18_ask_B179
    simp only [b_model L2, grd_true, okI_nI hn (by omega), nI_clamp (n := na) (by omega), lt_t, show vp_nar .boolean 0 = bI false from rfl, b_model (L3 (bI false)), lnk_s]
    rw [if_pos (by decide)]
    unfold fn_X18_ask_B202
    simp only [b_model L2, grd_true, okI_nI hn (by omega), nI_clamp (n := na) (by omega), lt_t]
    rw [if_pos (by decide)]
    rfl
  rw [t, if_neg s1]
  unfold fn_X18_ask_B138
  rcases hs with e2 | ⟨e2, e3⟩ <;> subst e2
  · rw [if_neg (by decide)]; exact tl
  · rw [if_pos (by rfl), findR_t hF L2 (hl.keep az_fr) hk, cal_s, e3]; exact tl
end
