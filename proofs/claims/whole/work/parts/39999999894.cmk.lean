/-! THE CLASS'S MACHINE: a frame is pushed -/
/-- what a step leaves alone; the frames' programs may change -/
def FrD (z z' : St) : Prop := (∀ k, k ≠ 98 → z'.2.2 k = z.2.2 k) ∧ (∀ k, ¬ (87 ≤ k ∧ k ≤ 103) → z'.1 k = z.1 k ∧ z'.2.1 k = z.2.1 k) ∧ (∀ j, j < 12 ∨ 17 < j → z'.1 87 j = z.1 87 j) ∧ ∀ j, j ≠ 17 → z'.2.1 87 j = z.2.1 87 j
theorem FrD.rfl' {z : St} : FrD z z := ⟨fun _ _ => rfl, fun _ _ => ⟨rfl, rfl⟩, fun _ _ => rfl, fun _ _ => rfl⟩
theorem FrC.d {z z' : St} (h : FrC z z') : FrD z z' := ⟨fun k _ => by rw [h.1], fun k hk => h.2.1 k (by omega) (by omega) (by omega), h.2.2⟩
theorem FrD.trans {z z' z'' : St} (h : FrD z z') (g : FrD z' z'') : FrD z z'' := ⟨fun k a => (g.1 k a).trans (h.1 k a), fun k a => ⟨(g.2.1 k a).1.trans (h.2.1 k a).1, (g.2.1 k a).2.trans (h.2.1 k a).2⟩, fun j a => (g.2.2.1 j a).trans (h.2.2.1 j a), fun j a => (g.2.2.2 j a).trans (h.2.2.2 j a)⟩
def zer (z : St) (d p : Nat) : St := (fun k j => if k = 102 ∧ d * 40 ≤ j ∧ j < d * 40 + p then 0 else z.1 k j, z.2.1, z.2.2)
theorem zer_0 (z : St) (d : Nat) : zer z d 0 = z := by
  unfold zer
  have : (fun k j => if k = 102 ∧ d * 40 ≤ j ∧ j < d * 40 + 0 then 0 else z.1 k j) = z.1 := by
    funext k j
    rw [if_neg (by omega)]
  rw [this]
theorem zer_s (z : St) (d p : Nat) : si (zer z d p) 102 (d * 40 + p) 0 = zer z d (p + 1) := by
  unfold zer si
  congr 1
  funext k j
  simp only
  by_cases c : k = 102
  · subst c
    by_cases q : j = d * 40 + p
    · subst q; simp
    · by_cases r : d * 40 ≤ j ∧ j < d * 40 + p
      · simp [q, r]; omega
      · have r2 : ¬ (d * 40 ≤ j ∧ j < d * 40 + (p + 1)) := by omega
        simp [q, r, r2]
  · simp [c]
def pfS (z : St) (d p : Nat) (f : Int32) : St := zer (si (si (si (sq (si z 87 12 (nI d)) 98 d (some p)) 99 d f) 100 d 0) 101 d 0) d 40
section
variable {F n : Nat} {sh : Nat → Nat × Nat} {z z' : St} {pk : Nat → Nat} {kt : Nat} {H : Hp} {m : Nat} {sl0 : Int32} {fr : Nat → Fm} {cs cl : Nat → Nat → Nat} {nf g lim : Nat}
theorem pfL {z1 : St} {d : Nat} (hd : d < 32) (hL : Lay sh n z1) (e12 : z1.1 87 12 = nI d) : ∀ r p f, p + r = 40 → r < f → fn_X4_pushFrame_L52 F sh n 87 f (zer z1 d p) (nI p) = some (zer z1 d 40, ()) := by
  intro r
  induction r with
  | zero =>
    intro p f ep hf
    obtain ⟨f', rfl⟩ : ∃ q, f = q + 1 := ⟨f - 1, by omega⟩
    have : p = 40 := by omega
    subst this
    unfold fn_X4_pushFrame_L52
    rw [if_pos (by decide)]
  | succ r ih =>
    intro p f ep hf
    obtain ⟨f', rfl⟩ : ∃ q, f = q + 1 := ⟨f - 1, by omega⟩
    have e1 : (zer z1 d p).1 87 12 = nI d := by unfold zer; simp; exact e12
    have e2 : (zer z1 d p).2.2 87 10 = some 102 := hL.2.2 87 10 102 rfl
    have ei : nI d * 40 + nI p = nI (d * 40 + p) := by rw [show (40 : Int32) = nI 40 from rfl, pk_mul, nI_add]
    have oi : okA sh n 102 101 (nI (d * 40 + p)) = true := by rw [lay_a hL 102 101 1280 (by decide) rfl]; exact okI_nI (by omega) (by omega)
    unfold fn_X4_pushFrame_L52
    rw [if_neg (fun q => by have := (nIge (x := 40) 40 rfl (by omega) (by omega)).mp q; omega), e2, lnk_s, e1, ei, oi, grd_true, nI_clamp (by omega), zer_s, lt_t, nI_1]
    exact ih (p + 1) f' (by omega) (by omega)
theorem pushFrame_t (hF : 300 ≤ F) (hL : Lay sh n z) {d p : Nat} (hd : d < 32) (e12 : z.1 87 12 + 1 = nI d) (hp : okO sh n p 5 = true) (f : Int32) : fn_X4_pushFrame F sh n z 87 p f = some (pfS z d p f, ()) := by
  have L1 : Lay sh n (si z 87 12 (nI d)) := hL.of rfl
  have L2 : Lay sh n (sq (si z 87 12 (nI d)) 98 d (some p)) := L1.sq rfl
  have ok : ∀ k w, 98 ≤ k → k ≤ 101 → shF k = (w, 32) → okA sh n k w (nI d) = true := fun k w k1 k2 ee => by rw [lay_a hL k w 32 (by omega) ee]; exact okI_nI (by omega) (by omega)
  have cd : (nI d).toNatClampNeg = d := nI_clamp (by omega)
  have x1 : (si z 87 12 (nI d)).1 87 12 = nI d := by simp [si_1]
  have x2 : (sq (si z 87 12 (nI d)) 98 d (some p)).1 87 12 = nI d := by rw [sq_1]; exact x1
  have x3 : (si (sq (si z 87 12 (nI d)) 98 d (some p)) 99 d f).1 87 12 = nI d := by simp [si_1, sq_1]
  have x4 : (si (si (sq (si z 87 12 (nI d)) 98 d (some p)) 99 d f) 100 d 0).1 87 12 = nI d := by simp [si_1, sq_1]
  have x5 : (si (si (si (sq (si z 87 12 (nI d)) 98 d (some p)) 99 d f) 100 d 0) 101 d 0).1 87 12 = nI d := by simp [si_1, sq_1]
  have L3 : Lay sh n (si (si (si (sq (si z 87 12 (nI d)) 98 d (some p)) 99 d f) 100 d 0) 101 d 0) := L2.of rfl
  have lo := pfL (F := F) hd L3 x5 40 0 F (by omega) (by omega)
  rw [zer_0] at lo
  unfold fn_X4_pushFrame
  rw [(b_mach hL).1, grd_true, e12, lt_t, L1.2.2 87 6 98 rfl, lnk_s, x1, ok 98 104 (by omega) (by omega) rfl, grd_true, hp, grd_true, cd, lt_t, L2.2.2 87 7 99 rfl, lnk_s, x2, ok 99 101 (by omega) (by omega) rfl, grd_true, cd, lt_t, show (si (sq (si z 87 12 (nI d)) 98 d (some p)) 99 d f).2.2 87 8 = some 100 from L2.2.2 87 8 100 rfl, lnk_s, x3, ok 100 101 (by omega) (by omega) rfl, grd_true, cd, lt_t, show (si (si (sq (si z 87 12 (nI d)) 98 d (some p)) 99 d f) 100 d 0).2.2 87 9 = some 101 from L2.2.2 87 9 101 rfl, lnk_s, x4, ok 101 101 (by omega) (by omega) rfl, grd_true, cd, lt_t]
  exact lo
theorem pf_rows (z : St) (d p : Nat) (f : Int32) : (pfS z d p f).1 87 12 = nI d ∧ (∀ j, j ≠ 12 → (pfS z d p f).1 87 j = z.1 87 j) ∧ (pfS z d p f).1 99 d = f ∧ (pfS z d p f).1 100 d = 0 ∧ (pfS z d p f).1 101 d = 0 ∧ (∀ k e, 99 ≤ k → k ≤ 101 → e ≠ d → (pfS z d p f).1 k e = z.1 k e) ∧ (∀ j, j < d * 40 → (pfS z d p f).1 102 j = z.1 102 j) ∧ (∀ k, k < 40 → (pfS z d p f).1 102 (d * 40 + k) = 0) ∧ (pfS z d p f).1 103 = z.1 103 ∧ (∀ k, k ≠ 87 → ¬ (99 ≤ k ∧ k ≤ 102) → (pfS z d p f).1 k = z.1 k) ∧ (pfS z d p f).2.1 = z.2.1 ∧ (pfS z d p f).2.2 98 d = some p ∧ (∀ e, e ≠ d → (pfS z d p f).2.2 98 e = z.2.2 98 e) ∧ ∀ k, k ≠ 98 → (pfS z d p f).2.2 k = z.2.2 k := by
  refine ⟨?_, fun j hj => ?_, ?_, ?_, ?_, fun k e k1 k2 he => ?_, fun j hj => ?_, fun k hk => ?_, ?_, fun k k1 k2 => ?_, rfl, ?_, fun e he => ?_, fun k hk => ?_⟩
  · simp [pfS, zer, si_1, sq_1]
  · simp [pfS, zer, si_1, sq_1, hj]
  · simp [pfS, zer, si_1, sq_1]
  · simp [pfS, zer, si_1, sq_1]
  · simp [pfS, zer, si_1, sq_1]
  · have : k = 99 ∨ k = 100 ∨ k = 101 := by omega
    rcases this with c | c | c <;> subst c <;> simp [pfS, zer, si_1, sq_1, he]
  · have : ¬ (d * 40 ≤ j) := by omega
    simp [pfS, zer, si_1, sq_1, this]
  · simp [pfS, zer, si_1, sq_1, hk]
  · funext j; simp [pfS, zer, si_1, sq_1]
  · funext j
    have : k ≠ 99 ∧ k ≠ 100 ∧ k ≠ 101 ∧ k ≠ 102 := by omega
    simp [pfS, zer, si_1, sq_1, k1, this]
  · show (sq (si z 87 12 (nI d)) 98 d (some p)).2.2 98 d = some p
    rw [sq_3]; simp
  · show (sq (si z 87 12 (nI d)) 98 d (some p)).2.2 98 e = z.2.2 98 e
    rw [sq_3]; simp [he]; rfl
  · funext j
    show (sq (si z 87 12 (nI d)) 98 d (some p)).2.2 k j = z.2.2 k j
    rw [sq_3]; simp [hk]; rfl
end
