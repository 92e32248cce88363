/-! THE CLASS'S LEDGER: accounts as on the other side, resources in slots (address, kind, nodes) -/
abbrev Rsc : Type := Int64 × Nat × List Ent
def CSl (z : St) (r : Nat) (x : Rsc) : Prop := z.2.1 8 r = x.1 ∧ z.1 9 r = nI (x.2.1 / 256) ∧ z.1 10 r = nI (x.2.1 % 256) ∧ x.2.1 < 2 ^ 24 ∧ z.1 11 r = nI x.2.2.length ∧ 0 < x.2.2.length ∧ x.2.2.length ≤ 64 ∧ RowsC z x.2.2 (r * 64)
def CLg (z : St) (nc : Nat) (ac : Nat → Int64 × Int64 × Int64) (nr : Nat) (so : Nat → Option Rsc) : Prop := (z.1 3 3 = nI nc ∧ nc ≤ 256 ∧ ∀ i, i < nc → z.2.1 4 i = (ac i).1 ∧ z.2.1 5 i = (ac i).2.1 ∧ z.2.1 6 i = (ac i).2.2) ∧ z.1 3 10 = nI nr ∧ nr ≤ 256 ∧ ∀ r, r < 256 → (so r = none → z.1 11 r = 0) ∧ ∀ x, so r = some x → CSl z r x
def isS (so : Nat → Option Rsc) (a : Int64) (k : Nat) (r : Nat) : Bool := match so r with
  | none => false
  | some x => decide (x.1 = a) && decide (x.2.1 = k)
def fdS (so : Nat → Option Rsc) (a : Int64) (k : Nat) : Option Nat := fd (isS so a k) 256 0
theorem isS_n {so : Nat → Option Rsc} {a : Int64} {k r : Nat} (h : so r = none) : isS so a k r = false := by unfold isS; rw [h]
theorem isS_s {so : Nat → Option Rsc} {a : Int64} {k r : Nat} {x : Rsc} (h : so r = some x) : isS so a k r = (decide (x.1 = a) && decide (x.2.1 = k)) := by unfold isS; rw [h]
theorem fd_1 (p : Nat → Bool) (r i : Nat) : fd p (r + 1) i = if p i then some i else fd p r (i + 1) := rfl
section
variable {F n : Nat} {sh : Nat → Nat × Nat} {z z' : St} {nc nr : Nat} {ac : Nat → Int64 × Int64 × Int64} {so : Nat → Option Rsc}
theorem CSl.of {r : Nat} {x : Rsc} (h : CSl z r x) (e : ∀ k, 8 ≤ k → k ≤ 14 → z'.1 k = z.1 k ∧ z'.2.1 k = z.2.1 k) : CSl z' r x := by
  obtain ⟨h1, h2, h3, h4, h5, h6, h7, h8⟩ := h
  exact ⟨by rw [(e 8 (by omega) (by omega)).2]; exact h1, by rw [(e 9 (by omega) (by omega)).1]; exact h2, by rw [(e 10 (by omega) (by omega)).1]; exact h3, h4, by rw [(e 11 (by omega) (by omega)).1]; exact h5, h6, h7, h8.of (e 12 (by omega) (by omega)).1 (e 13 (by omega) (by omega)).2 (e 14 (by omega) (by omega)).2⟩
theorem CLg.of (h : CLg z nc ac nr so) (e : ∀ k, 3 ≤ k → k ≤ 14 → z'.1 k = z.1 k ∧ z'.2.1 k = z.2.1 k) : CLg z' nc ac nr so := by
  obtain ⟨⟨a1, a2, a3⟩, b1, b2, b3⟩ := h
  refine ⟨⟨by rw [(e 3 (by omega) (by omega)).1]; exact a1, a2, fun i hi => by rw [(e 4 (by omega) (by omega)).2, (e 5 (by omega) (by omega)).2, (e 6 (by omega) (by omega)).2]; exact a3 i hi⟩, by rw [(e 3 (by omega) (by omega)).1]; exact b1, b2, fun r hr => ⟨fun q => by rw [(e 11 (by omega) (by omega)).1]; exact (b3 r hr).1 q, fun x hx => ((b3 r hr).2 x hx).of (fun k k1 k2 => e k (by omega) k2)⟩⟩
theorem cfindA_L (hL : Lay sh n z) (h : CLg z nc ac nr so) {x : Int64} : ∀ r p f, p + r = nc → r < f → fn_X7_findAccount_L2 F sh n 3 x f z (nI p) = some (z, oI (fd (fun i => decide ((ac i).1 = x)) r p)) := by
  obtain ⟨⟨a1, a2, a3⟩, _⟩ := h
  intro r
  induction r with
  | zero =>
    intro p f e hf
    obtain ⟨f', rfl⟩ : ∃ q, f = q + 1 := ⟨f - 1, by omega⟩
    unfold fn_X7_findAccount_L2
    rw [(b_state hL).1, grd_true, a1, if_pos ((nI_leI (by omega) (by omega)).mpr (by omega))]
    rfl
  | succ r ih =>
    intro p f e hf
    obtain ⟨f', rfl⟩ : ∃ q, f = q + 1 := ⟨f - 1, by omega⟩
    have ng : ¬ nI nc ≤ nI p := fun q => by have := (nI_leI (by omega) (by omega)).mp q; omega
    have ok : okA sh n 4 102 (nI p) = true := by rw [lay_a hL 4 102 256 (by decide) rfl]; exact okI_nI (by omega) (by omega)
    have go := ih (p + 1) f' (by omega) (by omega)
    unfold fn_X7_findAccount_L2
    rw [(b_state hL).1, grd_true, a1, if_neg ng, hL.2.2 3 0 4 rfl, lnk_s, ok, grd_true, nI_clamp (by omega), (a3 p (by omega)).1, nI_1, go, fd_1]
    by_cases c : (ac p).1 = x
    · rw [if_pos c, if_pos (by simp [c])]; rfl
    · rw [if_neg c, if_neg (by simp [c])]
theorem cfindA_t (hF : 300 ≤ F) (hL : Lay sh n z) (h : CLg z nc ac nr so) {x : Int64} : fn_X7_findAccount F sh n z 3 x = some (z, oI (fdA nc ac x)) := cfindA_L hL h nc 0 F (by omega) (by have := h.1.2.1; omega)
theorem cfindR_L (hL : Lay sh n z) (h : CLg z nc ac nr so) {x : Int64} {k : Nat} (hk : k < 2 ^ 24) : ∀ r p f, p + r = 256 → r < f → fn_X7_findResource_L3 F sh n 3 x (nI (k / 256)) (nI (k % 256)) f z (nI p) = some (z, oI (fd (isS so x k) r p)) := by
  obtain ⟨_, _, _, a3⟩ := h
  intro r
  induction r with
  | zero =>
    intro p f e hf
    obtain ⟨f', rfl⟩ : ∃ q, f = q + 1 := ⟨f - 1, by omega⟩
    unfold fn_X7_findResource_L3
    rw [if_pos ((nIge (x := 256) 256 rfl (by omega) (by omega)).mpr (by omega))]
    rfl
  | succ r ih =>
    intro p f e hf
    obtain ⟨f', rfl⟩ : ∃ q, f = q + 1 := ⟨f - 1, by omega⟩
    have ng : ¬ (256 : Int32) ≤ nI p := fun q => by have := (nIge (x := 256) 256 rfl (by omega) (by omega)).mp q; omega
    have ok : ∀ c w, 8 ≤ c → c ≤ 11 → shF c = (w, 256) → okA sh n c w (nI p) = true := fun c w c1 c2 ee => by rw [lay_a hL c w 256 (by omega) ee]; exact okI_nI (by omega) (by omega)
    have cp : (nI p).toNatClampNeg = p := nI_clamp (by omega)
    have go := ih (p + 1) f' (by omega) (by omega)
    obtain ⟨s1, s2⟩ := a3 p (by omega)
    have eB : fn_X7_findResource_B59 F sh n (nI p) (fun z9 q5 => fn_X7_findResource_L3 F sh n 3 x (nI (k / 256)) (nI (k % 256)) f' z9 q5) z = some (z, oI (fd (isS so x k) r (p + 1))) := by
      show fn_X7_findResource_L3 F sh n 3 x (nI (k / 256)) (nI (k % 256)) f' z (nI p + 1) = _
      rw [nI_1]; exact go
    unfold fn_X7_findResource_L3
    rw [if_neg ng, (b_state hL).1, grd_true, hL.2.2 3 9 11 rfl, lnk_s, ok 11 101 (by omega) (by omega) rfl, grd_true, cp]
    rw [eB, fd_1]
    cases q : so p with
    | none =>
      rw [s1 q, if_pos (by decide), if_neg (by rw [isS_n q]; decide)]
    | some y =>
      obtain ⟨t1, t2, t3, t4, t5, t6, t7, _⟩ := s2 y q
      rw [t5, if_neg (nI_nle t6 (by omega)), hL.2.2 3 6 8 rfl, lnk_s, ok 8 102 (by omega) (by omega) rfl, grd_true, t1, hL.2.2 3 7 9 rfl, lnk_s, ok 9 101 (by omega) (by omega) rfl, grd_true, t2, hL.2.2 3 8 10 rfl, lnk_s, ok 10 101 (by omega) (by omega) rfl, grd_true, t3, isS_s q]
      by_cases c1 : y.1 = x
      · rw [if_pos c1]
        by_cases c2 : y.2.1 / 256 = k / 256
        · rw [if_pos (by rw [c2])]
          by_cases c3 : y.2.1 % 256 = k % 256
          · have : y.2.1 = k := by omega
            rw [if_pos (by rw [c3]), if_pos (by simp [c1, this])]
            rfl
          · have : y.2.1 ≠ k := fun w => c3 (by rw [w])
            rw [if_neg (fun w => c3 ((nI_ij (by omega) (by omega)).mp w)), if_neg (by simp [this])]
        · have : y.2.1 ≠ k := fun w => c2 (by rw [w])
          rw [if_neg (fun w => c2 ((nI_ij (by omega) (by omega)).mp w)), if_neg (by simp [this])]
      · rw [if_neg c1, if_neg (by simp [c1])]
theorem cfindR_t (hF : 300 ≤ F) (hL : Lay sh n z) (h : CLg z nc ac nr so) {x : Int64} {k : Nat} (hk : k < 2 ^ 24) : fn_X7_findResource F sh n z 3 x (nI (k / 256)) (nI (k % 256)) = some (z, oI (fdS so x k)) := cfindR_L hL h hk 256 0 F (by omega) (by omega)
def fdN (so : Nat → Option Rsc) : Option Nat := fd (fun r => (so r).isNone) 256 0
theorem cfree_L (hL : Lay sh n z) (h : CLg z nc ac nr so) : ∀ r p f, p + r = 256 → r < f → fn_X7_freeSlot_L2 F sh n 3 f z (nI p) = some (z, oI (fd (fun r => (so r).isNone) r p)) := by
  obtain ⟨_, _, _, a3⟩ := h
  intro r
  induction r with
  | zero =>
    intro p f e hf
    obtain ⟨f', rfl⟩ : ∃ q, f = q + 1 := ⟨f - 1, by omega⟩
    unfold fn_X7_freeSlot_L2
    rw [if_pos ((nIge (x := 256) 256 rfl (by omega) (by omega)).mpr (by omega))]
    rfl
  | succ r ih =>
    intro p f e hf
    obtain ⟨f', rfl⟩ : ∃ q, f = q + 1 := ⟨f - 1, by omega⟩
    have ng : ¬ (256 : Int32) ≤ nI p := fun q => by have := (nIge (x := 256) 256 rfl (by omega) (by omega)).mp q; omega
    have ok : okA sh n 11 101 (nI p) = true := by rw [lay_a hL 11 101 256 (by decide) rfl]; exact okI_nI (by omega) (by omega)
    have go := ih (p + 1) f' (by omega) (by omega)
    obtain ⟨s1, s2⟩ := a3 p (by omega)
    unfold fn_X7_freeSlot_L2
    rw [if_neg ng, (b_state hL).1, grd_true, hL.2.2 3 9 11 rfl, lnk_s, ok, grd_true, nI_clamp (by omega), nI_1, go, fd_1]
    cases q : so p with
    | none => rw [s1 q, if_pos rfl, if_pos (by simp)]; rfl
    | some y =>
      obtain ⟨t1, t2, t3, t4, t5, t6, t7, _⟩ := s2 y q
      rw [t5, if_neg (nI_ne0 t6 (by omega)), if_neg (by simp)]
theorem cfree_t (hF : 300 ≤ F) (hL : Lay sh n z) (h : CLg z nc ac nr so) : fn_X7_freeSlot F sh n z 3 = some (z, oI (fdN so)) := cfree_L hL h 256 0 F (by omega) (by omega)
end
