/-! MODULES THAT ARE THERE: the class finds them -/
def dMd : Md := ((0, 0, 0), fun _ => 0, fun _ => [], fun _ => 0, [], (0, 0, fun _ => (0, [], [], [])), fun _ => 0, fun _ => [])
/-- the first place where something fails -/
def fbad (p : Nat → Bool) : Nat → Nat → Option Nat
  | 0, _ => none
  | r + 1, i => if p i = true then fbad p r (i + 1) else some i
/-- the first module of a number -/
def wfi (ws : Nat → Md) (num : Nat) : Nat → Nat → Option Nat
  | 0, _ => none
  | r + 1, i => if (ws i).1.1 = num then some i else wfi ws num r (i + 1)
theorem wfi_s {ws : Nat → Md} {num : Nat} : ∀ {r i j : Nat}, wfi ws num r i = some j → i ≤ j ∧ j < i + r ∧ (ws j).1.1 = num
  | 0, _, _, h => by cases h
  | r + 1, i, j, h => by
    unfold wfi at h
    by_cases c : (ws i).1.1 = num
    · rw [if_pos c] at h; cases h; exact ⟨Nat.le_refl _, by omega, c⟩
    · rw [if_neg c] at h
      have := wfi_s h
      exact ⟨by omega, by omega, this.2.2⟩
theorem wfi_n {ws : Nat → Md} {num : Nat} : ∀ {r i : Nat}, wfi ws num r i = none → ∀ j, i ≤ j → j < i + r → (ws j).1.1 ≠ num
  | 0, _, _, j, h1, h2 => by omega
  | r + 1, i, h, j, h1, h2 => by
    unfold wfi at h
    by_cases c : (ws i).1.1 = num
    · rw [if_pos c] at h; cases h
    · rw [if_neg c] at h
      by_cases d : j = i
      · subst d; exact c
      · exact wfi_n h j (by omega) (by omega)
/-- the modules that are there, wc of them, the coin's first -/
def CWo (sh : Nat → Nat × Nat) (n : Nat) (z : St) (ws : Nat → Md) (wc : Nat) (dp : Nat → Nat → Nat) : Prop := Lay sh n z ∧ z.1 3 5 = nI wc ∧ wc ≤ 8 ∧ ∀ i, i ≤ wc → (∃ kb b len M, CPr sh n z (15 + 5 * i) kb b len M ∧ ws i = mdOf b M ∧ 513 ≤ kb ∧ jM b M = none ∧ 6 ≤ len) ∧ ∀ s, s < (ws i).1.2.1 → z.1 (15 + 5 * i + 3) (7 * s + 6) = nI (dp i s) ∧ dp i s ≤ 24
section
variable {F n : Nat} {sh : Nat → Nat × Nat} {z z' : St} {kp kb len : Nat} {b : Nat → Nat} {M : MP} {ws : Nat → Md} {wc : Nat} {dp : Nat → Nat → Nat}
theorem shB_lt {p : Nat} (h1 : b p < 256) (h2 : b (p + 1) < 256) : shB b p < 65536 := by unfold shB; omega
theorem CPr.num2 (h : CPr sh n z kp kb b len M) (h6 : 6 ≤ len) : z.1 kp 2 = nI (mdOf b M).1.1 ∧ (mdOf b M).1.1 < 65536 := ⟨h.1.2.2.1.1.1, shB_lt (h.hb 4 (by omega)) (h.hb 5 (by omega))⟩
theorem CWo.find (hF : 20 ≤ F) (h : CWo sh n z ws wc dp) (h6 : ∀ i, i ≤ wc → (ws i).1.1 < 65536) {num : Nat} (hn : num < 65536) : fn_X7_findProgram F sh n z 3 (nI num) = some (z, match wfi ws num (wc + 1) 0 with | some i => some (15 + 5 * i) | none => none) := by
  obtain ⟨hL, h2, h3, h4⟩ := h
  have bs := b_state hL
  obtain ⟨s0, _, _, _, s4, _⟩ := bs
  have oa : ∀ i, okA sh n 7 104 i = okI i 9 := lay_a hL 7 104 9 (by decide) rfl
  have lp : ∀ r i g, i + r = wc + 1 → r < g → fn_X7_findProgram_L2 F sh n 3 (nI num) g z (nI i) = some (z, match wfi ws num r i with | some i => some (15 + 5 * i) | none => none) := by
    intro r
    induction r with
    | zero =>
      intro i g ei hg
      obtain ⟨g, rfl⟩ : ∃ q, g = q + 1 := ⟨g - 1, by omega⟩
      unfold fn_X7_findProgram_L2
      rw [s0, grd_true, h2, if_pos ((nI_ltI (by omega) (by omega)).mpr (by omega))]
      rfl
    | succ r ih =>
      intro i g ei hg
      obtain ⟨g, rfl⟩ : ∃ q, g = q + 1 := ⟨g - 1, by omega⟩
      obtain ⟨⟨kb, b, len, M, c1, c2, c3⟩, _⟩ := h4 i (by omega)
      have lk := hL.2.2 7 i (15 + 5 * i) (b_progs_l i (by omega))
      have e2 : z.1 (15 + 5 * i) 2 = nI (ws i).1.1 := by rw [c2]; exact c1.1.2.2.1.1.1
      unfold fn_X7_findProgram_L2 wfi
      rw [s0, grd_true, h2, if_neg (fun y => by have := (nI_ltI (by omega) (by omega)).mp y; omega), s4, lnk_s, oa, okI_nI (by omega) (by omega), grd_true, nI_clamp (by omega), lk, lnk_s, (b_prog c1.1.1 c1.1.2.1).1, grd_true, e2, lnk_s, oa, okI_nI (show i < 9 by omega) (by omega), grd_true, lk, lnk_s, nI_1]
      have l6 := h6 i (by omega)
      by_cases c : (ws i).1.1 = num
      · rw [if_pos (by rw [c]), if_pos c]
      · rw [if_neg (fun y => c ((nI_eq (by omega) (by omega)).mp y)), if_neg c]
        exact ih (i + 1) g (by omega) (by omega)
  unfold fn_X7_findProgram
  exact lp (wc + 1) 0 F (by omega) (by omega)
/-- a structure's home and number -/
theorem CPr.home (h : CPr sh n z kp kb b len M) {s : Nat} (hs : s < M.1.length + M.2.1.length) : fn_X5_structureColumn F sh n z kp (nI s) 4 = some (z, nI ((mdOf b M).2.2.2.1 s / 256)) ∧ fn_X5_structureColumn F sh n z kp (nI s) 5 = some (z, nI ((mdOf b M).2.2.2.1 s % 256)) := by
  rw [h.1.sCol (c := 4) (ic := 4) rfl hs (by omega), h.1.sCol (c := 5) (ic := 5) rfl hs (by omega)]
  have pk := h.1.2.2.2
  have l1 := pk.1.1
  have e : (mdOf b M).2.2.2.1 s = if s < M.1.length then 256 * shB b 4 + s else 256 * shB b (M.2.1.getD (s - M.1.length) 0) + b (M.2.1.getD (s - M.1.length) 0 + 2) := rfl
  rw [e]
  by_cases c : s < M.1.length
  · obtain ⟨_, _, _, _, r4, r5⟩ := h.1.2.2.1.2.1 s c
    rw [Nat.zero_add] at r4 r5
    rw [if_pos c, r4, r5, show (256 * shB b 4 + s) / 256 = shB b 4 by omega, show (256 * shB b 4 + s) % 256 = s by omega]
    exact ⟨rfl, rfl⟩
  · obtain ⟨_, _, r4, r5⟩ := h.1.2.2.1.2.2.1 (s - M.1.length) (by omega)
    rw [show M.1.length + (s - M.1.length) = s by omega] at r4 r5
    have fp := pk.2.1.2 _ (getD_m (d := 0) (show s - M.1.length < M.2.1.length by omega))
    have b8 := h.hb (M.2.1.getD (s - M.1.length) 0 + 2) (by have := fp.1; omega)
    rw [if_neg c, r4, r5, show (256 * shB b (M.2.1.getD (s - M.1.length) 0) + b (M.2.1.getD (s - M.1.length) 0 + 2)) / 256 = shB b (M.2.1.getD (s - M.1.length) 0) by omega, show (256 * shB b (M.2.1.getD (s - M.1.length) 0) + b (M.2.1.getD (s - M.1.length) 0 + 2)) % 256 = b (M.2.1.getD (s - M.1.length) 0 + 2) by omega]
    exact ⟨rfl, rfl⟩
end
/-- a foreign structure is there, with its abilities -/
def strOk (ws : Nat → Md) (wc : Nat) (U : Md) (s : Nat) : Bool := match wfi ws (U.2.2.2.1 s / 256) (wc + 1) 0 with
  | none => false
  | some i => decide (U.2.2.2.1 s % 256 < (ws i).1.2.1) && decide ((ws i).2.1 (U.2.2.2.1 s % 256) = U.2.1 s)
