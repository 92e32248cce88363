/-! THE COIN'S MODULE; modules that are there: the reference finds them -/
def bC (q : Nat) : Nat := bOf (fs_COIN q)
def M0 : MP := ([(7, 4, [[3]])], [], [], [], [(14, 1, [[3]], [[6, 0]], [], [23]), (24, 1, [[5], [6, 0]], [], [], [33]), (34, 1, [[8, 6, 0]], [[3]], [], [44]), (45, 1, [[6, 0], [6, 0]], [[6, 0]], [], [57]), (58, 1, [[6, 0], [3]], [[6, 0], [6, 0]], [], [71]), (72, 1, [[5]], [[3]], [], [80])])
theorem coin_all : pAll bC 81 = .ok (M0, 81) := by rfl
theorem coin_j : jM bC M0 = none := by rfl
theorem coin_rd : rdMd bC 81 = none := by rfl
def U0 : Md := mdOf bC M0
theorem U0_n : U0.1 = (0, 1, 1) := by rfl
theorem U0_f : fsOf U0 = 6 ∧ faOf U0 = 6 := ⟨rfl, rfl⟩
/-- numbers of modules: the coin's is 0, no two are alike -/
def WNo (ws : Nat → Md) (wc : Nat) : Prop := ws 0 = U0 ∧ (∀ i, i ≤ wc → (ws i).1.1 < 65536) ∧ ∀ i j, i ≤ wc → j ≤ wc → (ws i).1.1 = (ws j).1.1 → i = j
def RWo (sh : Nat → Nat × Nat) (n : Nat) (z : St) (ws : Nat → Md) (wc : Nat) (dp : Nat → Nat → Nat) : Prop := Lay sh n z ∧ z.1 337 5 = nI wc ∧ wc ≤ 8 ∧ ∀ i, 1 ≤ i → i ≤ wc → (∃ b len M, UM sh n z (423 + 9 * i) b len M ∧ ws i = mdOf b M ∧ jM b M = none ∧ 6 ≤ len ∧ (allC M.2.2.2.2).length ≤ len) ∧ ∀ s, s < (ws i).1.2.1 → z.1 342 (64 * i + s) = nI (dp i s) ∧ dp i s ≤ 24
def wix (ws : Nat → Md) (wc num : Nat) : Nat := match wfi ws num (wc + 1) 0 with
  | some i => i
  | none => 0
section
variable {F n : Nat} {sh : Nat → Nat × Nat} {z z' : St} {ku len : Nat} {b : Nat → Nat} {M : MP} {ws : Nat → Md} {wc : Nat} {dp : Nat → Nat → Nat}
theorem WNo.at (h : WNo ws wc) {i : Nat} (hi : i ≤ wc) : wfi ws (ws i).1.1 (wc + 1) 0 = some i := by
  cases e : wfi ws (ws i).1.1 (wc + 1) 0 with
  | none => exact absurd rfl (wfi_n e i (by omega) (by omega))
  | some j =>
    obtain ⟨_, w2, w3⟩ := wfi_s e
    rw [h.2.2 j i (by omega) hi w3]
theorem WNo.zero (h : WNo ws wc) : wfi ws 0 (wc + 1) 0 = some 0 := by
  have := h.at (i := 0) (by omega)
  rw [h.1] at this
  exact this
theorem rfind (hF : 20 ≤ F) (hL : Lay sh n z) (h2 : z.1 337 5 = nI wc) (h3 : wc ≤ 8) (h4 : ∀ i, 1 ≤ i → i ≤ wc → ∃ b len M, UM sh n z (423 + 9 * i) b len M ∧ ws i = mdOf b M ∧ 6 ≤ len) (hN : WNo ws wc) {num : Nat} (h0 : 0 < num) (hn : num < 65536) : fn_X18_findModule F sh n z 337 (nI num) = some (z, nI (wix ws wc num)) := by
  have o18 := (b_model hL).1
  have m4 := hL.2.2 337 4 341 rfl
  have oa := b_units_a hL
  have lp : ∀ p g, p ≤ wc → p < g → (∀ j, p < j → j ≤ wc → (ws j).1.1 ≠ num) → fn_X18_findModule_L5 F sh n 337 (nI num) g z (nI p) = some (z, nI (wix ws wc num)) := by
    intro p
    induction p with
    | zero =>
      intro g hp hg hno
      obtain ⟨g, rfl⟩ : ∃ q, g = q + 1 := ⟨g - 1, by omega⟩
      unfold fn_X18_findModule_L5
      rw [if_pos (show nI 0 ≤ 0 by decide)]
      have : wix ws wc num = 0 := by
        unfold wix
        cases e : wfi ws num (wc + 1) 0 with
        | none => rfl
        | some i =>
          obtain ⟨_, w2, w3⟩ := wfi_s e
          by_cases c : i = 0
          · exact c
          · exact absurd w3 (hno i (by omega) (by omega))
      rw [this]
    | succ p ih =>
      intro g hp hg hno
      obtain ⟨g, rfl⟩ : ∃ q, g = q + 1 := ⟨g - 1, by omega⟩
      obtain ⟨b, len, M, c1, c2, c4⟩ := h4 (p + 1) (by omega) hp
      have lk := (b_units hL (i := p + 1) (by omega)).1
      have e1 : (nI (p + 1) : Int32) + (-1) = nI p := by
        rw [← nI_1]
        show nI p + 1 + (-1) = nI p
        rw [Int32.add_assoc, show (1 : Int32) + (-1) = 0 from rfl, Int32.add_zero]
      have nm := c1.1.number (F := F) c4
      have nl := hN.2.1 (p + 1) hp
      have en : (mdOf b M).1.1 = shB b 4 := rfl
      rw [c2, en] at nl
      unfold fn_X18_findModule_L5
      rw [if_neg (fun y => by have := (nIle (x := 0) 0 rfl (by omega) (by omega)).mp y; omega), m4, lnk_s, oa, okI_nI (by omega) (by omega), grd_true, nI_clamp (by omega), lk, lnk_s, c1.1.o, grd_true, nm, cal_s, e1]
      by_cases c : shB b 4 = num
      · rw [if_pos (by rw [c])]
        have : wix ws wc num = p + 1 := by
          unfold wix
          have q := hN.at hp
          rw [c2, en, c] at q
          rw [q]
        rw [this]
      · rw [if_neg (fun y => c ((nI_eq (by omega) (by omega)).mp y))]
        refine ih g (by omega) (by omega) (fun j h1 h2 => ?_)
        by_cases d : j = p + 1
        · subst d; rw [c2, en]; exact c
        · exact hno j (by omega) h2
  unfold fn_X18_findModule
  rw [o18, grd_true, lt_t, h2]
  exact lp wc F (Nat.le_refl _) (by omega) (fun j h1 h2 => absurd h1 (by omega))
/-- a module of a number other than 0 -/
theorem RWo.find (hF : 20 ≤ F) (h : RWo sh n z ws wc dp) (hN : WNo ws wc) {num : Nat} (h0 : 0 < num) (hn : num < 65536) : fn_X18_findModule F sh n z 337 (nI num) = some (z, nI (wix ws wc num)) := rfind hF h.1 h.2.1 h.2.2.1 (fun i a b => by
  obtain ⟨⟨b, len, M, c1, c2, c3, c4, _⟩, _⟩ := h.2.2.2 i a b
  exact ⟨b, len, M, c1, c2, c4⟩) hN h0 hn
theorem wix_s (hN : WNo ws wc) {num : Nat} (h0 : 0 < num) : (wfi ws num (wc + 1) 0 = none ∧ wix ws wc num = 0) ∨ (wfi ws num (wc + 1) 0 = some (wix ws wc num) ∧ 1 ≤ wix ws wc num ∧ wix ws wc num ≤ wc) := by
  unfold wix
  cases e : wfi ws num (wc + 1) 0 with
  | none => exact .inl ⟨rfl, rfl⟩
  | some i =>
    obtain ⟨_, w2, w3⟩ := wfi_s e
    refine .inr ⟨rfl, ?_, by show i ≤ wc; omega⟩
    show 1 ≤ i
    by_cases c : i = 0
    · subst c
      rw [hN.1] at w3
      have : U0.1.1 = 0 := rfl
      omega
    · omega
/-- what is asked of a module that is there comes to what its module says -/
theorem RWo.there (hF : 300 ≤ F) (h : RWo sh n z ws wc dp) (hN : WNo ws wc) {hm i : Nat} (hh : hm < 65536) (e : wfi ws hm (wc + 1) 0 = some i) : (∀ s, s < (ws i).1.2.1 → fn_X18_abilitiesThere F sh n z 337 (nI hm) (nI s) = some (z, nI ((ws i).2.1 s))) ∧ (∀ s, s < (ws i).1.2.2 → fn_X18_identityThere F sh n z 337 (nI hm) (nI s) = some (z, nI ((ws i).2.2.2.1 s))) ∧ ∀ f, f < fsOf (ws i) → fn_X18_flagsThere F sh n z 337 (nI hm) (nI f) = some (z, nI (fnOf (ws i) f).1) ∧ (fn_X18_manyThere F sh n z 337 (nI hm) (nI f) 0 = some (z, nI (tksOf (ws i) f).length) ∧ fn_X18_manyThere F sh n z 337 (nI hm) (nI f) 1 = some (z, nI (gvsOf (ws i) f).length)) ∧ (∀ k, k < (tksOf (ws i) f).length → fn_X18_typeThere F sh n z 337 (nI hm) (nI f) 0 (nI k) = some (z, tL ((tksOf (ws i) f).getD k []))) ∧ ∀ k, k < (gvsOf (ws i) f).length → fn_X18_typeThere F sh n z 337 (nI hm) (nI f) 1 (nI k) = some (z, tL ((gvsOf (ws i) f).getD k [])) := by
  by_cases c : hm = 0
  · subst c
    rw [hN.zero] at e
    cases e
    rw [hN.1]
    refine ⟨fun s hs => ?_, fun s hs => ?_, fun f hf => ?_⟩
    · have hs' : s < 1 := hs
      have : s = 0 := by omega
      subst this; rfl
    · have hs' : s < 1 := hs
      have : s = 0 := by omega
      subst this; rfl
    · have hf' : f < 6 := hf
      match f, hf' with
      | 0, _ => exact ⟨rfl, ⟨rfl, rfl⟩, fun k hk => (match k, (show k < 1 from hk) with | 0, _ => rfl), fun k hk => (match k, (show k < 1 from hk) with | 0, _ => rfl)⟩
      | 1, _ => exact ⟨rfl, ⟨rfl, rfl⟩, fun k hk => (match k, (show k < 2 from hk) with | 0, _ => rfl | 1, _ => rfl), fun k hk => absurd (show k < 0 from hk) (by omega)⟩
      | 2, _ => exact ⟨rfl, ⟨rfl, rfl⟩, fun k hk => (match k, (show k < 1 from hk) with | 0, _ => rfl), fun k hk => (match k, (show k < 1 from hk) with | 0, _ => rfl)⟩
      | 3, _ => exact ⟨rfl, ⟨rfl, rfl⟩, fun k hk => (match k, (show k < 2 from hk) with | 0, _ => rfl | 1, _ => rfl), fun k hk => (match k, (show k < 1 from hk) with | 0, _ => rfl)⟩
      | 4, _ => exact ⟨rfl, ⟨rfl, rfl⟩, fun k hk => (match k, (show k < 2 from hk) with | 0, _ => rfl | 1, _ => rfl), fun k hk => (match k, (show k < 2 from hk) with | 0, _ => rfl | 1, _ => rfl)⟩
      | 5, _ => exact ⟨rfl, ⟨rfl, rfl⟩, fun k hk => (match k, (show k < 1 from hk) with | 0, _ => rfl), fun k hk => (match k, (show k < 1 from hk) with | 0, _ => rfl)⟩
  · have fd := h.find (F := F) (by omega) hN (num := hm) (by omega) hh
    rcases wix_s hN (num := hm) (by omega) with ⟨q, _⟩ | ⟨q, q1, q2⟩
    · rw [q] at e; cases e
    rw [q] at e
    have ei : wix ws wc hm = i := by cases e; rfl
    rw [ei] at fd q1 q2
    obtain ⟨hL, h2, h3, h4⟩ := h
    obtain ⟨⟨b, len, M, c1, c2, c3, c4, _⟩, _⟩ := h4 i q1 q2
    have o18 := (b_model hL).1
    have m4 := hL.2.2 337 4 341 rfl
    have oa := b_units_a hL
    have lk := (b_units hL (i := i) (by omega)).1
    have nz : ¬ nI hm = 0 := nI_ne0 (by omega) (by omega)
    rw [c2]
    refine ⟨fun s hs => ?_, fun s hs => ?_, fun f hf => ⟨?_, ⟨?_, ?_⟩, fun k hk => ?_, fun k hk => ?_⟩⟩
    · unfold fn_X18_abilitiesThere
      rw [if_neg nz, o18, grd_true, m4, lnk_s, fd, cal_s, oa, okI_nI (by omega) (by omega), grd_true, nI_clamp (by omega), lk, lnk_s, c1.1.o, grd_true, c1.abilitiesOf (by have hs' : s < M.1.length := hs; omega), cal_s]
    · unfold fn_X18_identityThere
      rw [if_neg nz, o18, grd_true, m4, lnk_s, fd, cal_s, oa, okI_nI (by omega) (by omega), grd_true, nI_clamp (by omega), lk, lnk_s, c1.1.o, grd_true, c1.identity c4 hs, cal_s]
    · unfold fn_X18_flagsThere
      rw [if_neg nz, o18, grd_true, m4, lnk_s, fd, cal_s, oa, okI_nI (by omega) (by omega), grd_true, nI_clamp (by omega), lk, lnk_s, c1.1.o, grd_true, c1.flags (by have hf' : f < M.2.2.2.2.length := hf; omega), cal_s]
    · unfold fn_X18_manyThere
      have := c1.many (F := F) hF (f := f) (l := 0) (by have hf' : f < M.2.2.2.2.length := hf; omega) (by omega) (fun _ => by omega)
      rw [if_neg nz, o18, grd_true, m4, lnk_s, fd, cal_s, oa, okI_nI (by omega) (by omega), grd_true, nI_clamp (by omega), lk, lnk_s, c1.1.o, grd_true, show (0 : Int32) = nI 0 from rfl, this, cal_s]
      rfl
    · unfold fn_X18_manyThere
      have := c1.many (F := F) hF (f := f) (l := 1) (by have hf' : f < M.2.2.2.2.length := hf; omega) (by omega) (fun _ => by omega)
      rw [if_neg nz, o18, grd_true, m4, lnk_s, fd, cal_s, oa, okI_nI (by omega) (by omega), grd_true, nI_clamp (by omega), lk, lnk_s, c1.1.o, grd_true, show (1 : Int32) = nI 1 from rfl, this, cal_s]
      rfl
    · unfold fn_X18_typeThere
      have := c1.listed (F := F) hF (f := f) (l := 0) (by have hf' : f < M.2.2.2.2.length := hf; omega) (by omega) (fun _ => by omega) (i := k) hk
      rw [if_neg nz, o18, grd_true, m4, lnk_s, fd, cal_s, oa, okI_nI (by omega) (by omega), grd_true, nI_clamp (by omega), lk, lnk_s, c1.1.o, grd_true, show (0 : Int32) = nI 0 from rfl, this, cal_s]
      rfl
    · unfold fn_X18_typeThere
      have := c1.listed (F := F) hF (f := f) (l := 1) (by have hf' : f < M.2.2.2.2.length := hf; omega) (by omega) (fun _ => by omega) (i := k) hk
      rw [if_neg nz, o18, grd_true, m4, lnk_s, fd, cal_s, oa, okI_nI (by omega) (by omega), grd_true, nI_clamp (by omega), lk, lnk_s, c1.1.o, grd_true, show (1 : Int32) = nI 1 from rfl, this, cal_s]
      rfl
end
