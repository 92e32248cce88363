/-! THE START: what both objects hold -/
theorem lkup_80 {k : Nat} (hk : 80 ≤ k) : ∀ l : List (Nat × Nat), (∀ p, p ∈ l → p.1 < 80) → l.lookup k = none
  | [], _ => rfl
  | p :: l, h => by
    have h1 := h p (List.mem_cons_self ..)
    rw [List.lookup_cons, show (k == p.1) = false from beq_false_of_ne (by omega)]
    exact lkup_80 hk l (fun q hq => h q (List.mem_cons_of_mem _ hq))
theorem lkT_80 : ∀ p, p ∈ lkT → ∀ q, q ∈ p.2 → q.1 < 80 := by decide
theorem lkup_mem {α : Type} {k : Nat} {v : α} : ∀ l : List (Nat × α), l.lookup k = some v → (k, v) ∈ l
  | [], h => by cases h
  | (a, b) :: l, h => by
    rw [List.lookup_cons] at h
    cases e : (k == a) with
    | true =>
      rw [e] at h
      have e1 : k = a := beq_iff_eq.mp e
      have e2 : b = v := Option.some.inj h
      rw [e1, e2]; exact List.mem_cons_self ..
    | false =>
      rw [e] at h
      exact List.mem_cons_of_mem _ (lkup_mem l h)
theorem lkF_80 {k j : Nat} (h : 80 ≤ j) : lkF k j = none := by
  unfold lkF
  by_cases c1 : 15 ≤ k ∧ k < 60
  · rw [if_pos c1, lkup_80 h [(3, 1), (5, 2), (7, 3), (10, 4)] (by decide)]
    exact ite_self _
  rw [if_neg c1]
  by_cases c2 : 113 ≤ k ∧ k < 337
  · rw [if_pos c2, lkup_80 h [(8, 1), (9, 2), (10, 3), (16, 4), (17, 5), (18, 6)] (by decide)]
    exact ite_self _
  rw [if_neg c2]
  by_cases c3 : 423 ≤ k ∧ k < 513
  · rw [if_pos c3, lkup_80 h [(0, 1), (11, 2), (12, 3), (13, 4), (14, 5), (15, 6), (16, 7), (17, 8)] (by decide)]
    exact ite_self _
  rw [if_neg c3]
  by_cases c4 : k = 7
  · rw [if_pos c4, if_neg (by omega)]
  rw [if_neg c4]
  by_cases c5 : k = 2
  · rw [if_pos c5, if_neg (by omega)]
  rw [if_neg c5]
  by_cases c6 : k = 341
  · rw [if_pos c6, if_neg (by omega)]
  rw [if_neg c6]
  cases e : lkT.lookup k with
  | none => rfl
  | some l => exact lkup_80 h l (fun q hq => lkT_80 (k, l) (lkup_mem _ e) q hq)
def chkS (sh : Nat → Nat × Nat) : Bool := (List.range 513).all (fun k => sh k == shF k)
def chkL (z : St) : Bool := (List.range 513).all (fun k => (List.range 80).all (fun j => match lkF k j with | some t => z.2.2 k j == some t | none => true))
def chkF (z : St) : Bool := [z.1 0 1, z.1 0 2, z.1 0 4, z.1 0 5, z.1 0 12, z.1 3 3, z.1 3 5, z.1 3 10, z.1 88 6, z.1 87 18, z.1 337 3, z.1 337 5, z.1 337 9, z.1 337 22, z.1 337 50, z.1 337 51, z.1 337 52, z.1 337 53, z.1 337 75] == List.replicate 19 0
def chkG (z : St) : Bool := [z.2.1 3 14, z.2.1 3 15, z.2.1 337 20, z.2.1 337 21, z.2.1 74 0, z.2.1 74 1, z.2.1 74 2, z.2.1 74 3] == List.replicate 8 0
def chkT (z : St) : Bool := (List.range 2048).all (fun p => z.1 1 p == 0) && (List.range 256).all (fun p => z.1 11 p == 0)
set_option maxRecDepth 1000000 in
theorem stI1_e : stI1 = some (shI1, 337, zI1, ()) := by
  have h : (match stI1 with | some (_, n, _, _) => n == 337 | none => false) = true := by decide +kernel
  unfold shI1 zI1
  cases e : stI1 with
  | none => rw [e] at h; cases h
  | some q =>
    obtain ⟨a, b, c, d⟩ := q
    rw [e] at h
    have : b = 337 := beq_iff_eq.mp h
    rw [this]
set_option maxRecDepth 1000000 in
theorem stI2_e : stI2 = some (shI2, 513, zI2, ()) := by
  have h : (match stI2 with | some (_, n, _, _) => n == 513 | none => false) = true := by decide +kernel
  unfold shI2 zI2
  cases e : stI2 with
  | none => rw [e] at h; cases h
  | some q =>
    obtain ⟨a, b, c, d⟩ := q
    rw [e] at h
    have : b = 513 := beq_iff_eq.mp h
    rw [this]
set_option maxRecDepth 1000000 in
theorem st_S : chkS shI2 = true := by decide +kernel
set_option maxRecDepth 1000000 in
theorem st_L : chkL zI2 = true := by decide +kernel
set_option maxRecDepth 1000000 in
theorem st_F : chkF zI2 = true := by decide +kernel
set_option maxRecDepth 1000000 in
theorem st_G : chkG zI2 = true := by decide +kernel
set_option maxRecDepth 1000000 in
theorem st_T : chkT zI2 = true := by decide +kernel
set_option maxRecDepth 1000000 in
theorem st_C : zI2.2.2 15 0 = some CBK ∧ zI2.1 15 1 = nI 81 ∧ zI2.1 18 6 = nI 2 := by decide +kernel
set_option maxRecDepth 1000000 in
theorem st_M1 : (zI2.1 15 2 = nI (shB bC 4) ∧ zI2.1 15 8 = nI M0.1.length ∧ zI2.1 15 9 = nI (M0.1.length + M0.2.1.length) ∧ zI2.1 15 11 = nI M0.2.2.2.2.length ∧ zI2.1 15 12 = nI M0.2.2.1.length ∧ zI2.1 15 13 = nI (flS M0.1 ++ flC M0.2.2.1).length ∧ zI2.1 15 14 = nI M0.2.2.2.1.length) := by
  decide +kernel
set_option maxRecDepth 1000000 in
theorem st_M2 : RoS zI2 15 (shB bC 4) 0 0 M0.1 := by
  unfold RoS SRo
  decide +kernel
set_option maxRecDepth 1000000 in
theorem st_M3 : RoF zI2 15 bC M0.1.length M0.2.1 := by
  unfold RoF FoR
  decide +kernel
set_option maxRecDepth 1000000 in
theorem st_M4 : RoC zI2 15 bC 64 (flS M0.1).length M0.2.2.1 := by
  unfold RoC CRo
  decide +kernel
set_option maxRecDepth 1000000 in
theorem st_M5 : RoG zI2 15 (shB bC 4) (flS M0.1 ++ flC M0.2.2.1 ++ M0.2.2.2.1.map (fun e => e.2)).length M0.2.2.2.2 := by
  unfold RoG GRo
  decide +kernel
set_option maxRecDepth 1000000 in
theorem st_M6 : TyT zI2 15 (allT M0) := by
  unfold TyT
  decide +kernel
set_option maxRecDepth 1000000 in
theorem st_M7 : SrT zI2 15 (allC M0.2.2.2.2) := by
  unfold SrT
  decide +kernel
theorem st_M : TMc zI2 15 bC M0 := ⟨st_M1, st_M2, st_M3, st_M4, st_M5, st_M6, st_M7, by decide, by decide⟩
theorem lay_B : Lay shI2 513 zI2 := by
  refine ⟨Nat.le_refl _, fun k hk => ?_, fun k j t e => ?_⟩
  · have := List.all_eq_true.mp st_S k (List.mem_range.mpr hk)
    exact beq_iff_eq.mp this
  · have k5 : k < 513 := by
      by_cases c : k < 513
      · exact c
      · rw [lkF_513 (by omega)] at e; cases e
    have j8 : j < 80 := by
      by_cases c : j < 80
      · exact c
      · rw [lkF_80 (by omega)] at e; cases e
    have h1 := List.all_eq_true.mp st_L k (List.mem_range.mpr k5)
    have h2 := List.all_eq_true.mp h1 j (List.mem_range.mpr j8)
    rw [e] at h2
    exact beq_iff_eq.mp h2
