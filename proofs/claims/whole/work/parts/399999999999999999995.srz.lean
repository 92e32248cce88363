/-! THE CLASS'S READER: rounds as words -/
def ib (v : Int32) (x : Nat) : Bool := v.toBitVec.getLsbD x
theorem ib_or (a c : Int32) (x : Nat) : ib (a ||| c) x = (ib a x || ib c x) := by unfold ib; rw [Int32.toBitVec_or, BitVec.getLsbD_or]
theorem ib_0 (x : Nat) : ib 0 x = false := by
  have e : (0 : Int32).toBitVec = 0#32 := rfl
  unfold ib
  rw [e, BitVec.getLsbD_zero]
theorem ib_one : ∀ i, i < 32 → ∀ x, x < 32 → ib (1 <<< (nI i &&& 31)) x = decide (x = i) := by decide
theorem am32 : ∀ b, b < 32 → (((nI b).toUInt32 &&& Int32.toUInt32 31) % 32).toBitVec.toNat = b := by decide
theorem ib_ush (v : Int32) {b : Nat} (hb : b < 32) : ((((v.toUInt32 >>> ((nI b).toUInt32 &&& Int32.toUInt32 31)).toInt32) &&& 1 : Int32) = 0) ↔ ib v b = false := by
  have e : ((v.toUInt32 >>> ((nI b).toUInt32 &&& Int32.toUInt32 31)).toInt32).toBitVec = v.toBitVec >>> (((nI b).toUInt32 &&& Int32.toUInt32 31) % 32).toBitVec.toNat := rfl
  rw [am32 b hb] at e
  rw [← Int32.toBitVec_inj, Int32.toBitVec_and, e]
  unfold ib
  constructor
  · intro h
    have := congrArg (fun w => w.getLsbD 0) h
    simp only [BitVec.getLsbD_and, BitVec.getLsbD_ushiftRight, Nat.add_zero] at this
    have e1 : (Int32.toBitVec 1).getLsbD 0 = true := rfl
    have e0 : (Int32.toBitVec 0).getLsbD 0 = false := rfl
    rw [e1, e0, Bool.and_true] at this
    exact this
  · intro h
    apply BitVec.eq_of_getLsbD_eq
    intro i hi
    rw [BitVec.getLsbD_and, BitVec.getLsbD_ushiftRight]
    have e0 : (Int32.toBitVec 0).getLsbD i = false := by
      have e : Int32.toBitVec 0 = 0#32 := rfl
      rw [e, BitVec.getLsbD_zero]
    rw [e0]
    by_cases c : i = 0
    · subst c
      rw [Nat.add_zero, h]; rfl
    · have e1 : (Int32.toBitVec 1).getLsbD i = false := by
        have e : Int32.toBitVec 1 = 1#32 := rfl
        rw [e, BitVec.getLsbD_one]
        simp [c]
      rw [e1, Bool.and_false]
/-- the words are these rows -/
def HW (z : St) (N : Nat) (W : WR) : Prop := ∀ s, s < N → ∀ x, x < 32 → ib (z.1 61 s) x = W s x
section
variable {F n : Nat} {sh : Nat → Nat × Nat} {z z' : St} {kp N : Nat}
theorem HW.set {W W' : WR} (h : HW z N W) {s : Nat} {v : Int32} (h1 : ∀ x, x < 32 → ib v x = W' s x) (h2 : ∀ i, i ≠ s → ∀ x, W' i x = W i x) : HW (si z 61 s v) N W' := by
  intro i hi x hx
  by_cases c : i = s
  · subst c; rw [si_ss]; exact h1 x hx
  · rw [si_oj c, h2 i c]; exact h i hi x hx
/-- what rounds leave alone -/
def FrHo (z z' : St) : Prop := z'.2 = z.2 ∧ ∀ k, k ≠ 61 → z'.1 k = z.1 k
theorem FrHo.rfl' {z : St} : FrHo z z := ⟨rfl, fun _ _ => rfl⟩
theorem FrHo.trans {z z' z'' : St} (f : FrHo z z') (g : FrHo z' z'') : FrHo z z'' := ⟨g.1.trans f.1, fun k h => (g.2 k h).trans (f.2 k h)⟩
theorem FrHo.si {z : St} {j : Nat} {v : Int32} : FrHo z (si z 61 j v) := ⟨rfl, fun k h => si_ok h⟩
theorem HW.l104 (hN : N ≤ 32) (hL : Lay sh n z) {m : Nat} (hm : m < N) {ko : St → Int32 → Option (St × Unit)} : ∀ k s g z W, s + k = N → k < g → Lay sh n z → HW z N W → ∃ z', fn_X6_findRound_L104 F sh n (nI N) (nI m) 60 ko g z (nI s) = ko z' (nI m + 1) ∧ HW z' N (wIn m k s W) ∧ FrHo z z' := by
  intro k
  induction k with
  | zero =>
    intro s g z W es hg hL hW
    obtain ⟨g, rfl⟩ : ∃ q, g = q + 1 := ⟨g - 1, by omega⟩
    unfold fn_X6_findRound_L104
    rw [if_pos ((nI_leI (by omega) (by omega)).mpr (by omega))]
    exact ⟨z, rfl, hW, FrHo.rfl'⟩
  | succ k ih =>
    intro s g z W es hg hL hW
    obtain ⟨g, rfl⟩ : ∃ q, g = q + 1 := ⟨g - 1, by omega⟩
    obtain ⟨r1, r2, r3⟩ := b_read hL
    have ok1 : okA sh n 61 101 (nI s) = true := by rw [r3]; exact okI_nI (by omega) (by omega)
    have ok2 : okA sh n 61 101 (nI m) = true := by rw [r3]; exact okI_nI (by omega) (by omega)
    unfold fn_X6_findRound_L104 fn_X6_findRound_B137
    rw [if_neg (fun y => by have := (nI_leI (by omega) (by omega)).mp y; omega), r2, lnk_s, ok1, grd_true, nI_clamp (by omega), nI_clamp (by omega), nI_1, lnk_s, ok1, grd_true, lnk_s, ok2, grd_true, grd_true, lt_t]
    show ∃ z', _ ∧ HW z' N (wIn m k (s + 1) (wrow W m s)) ∧ _
    have bt := hW s (by omega) m (by omega)
    cases e : W s m with
    | false =>
      rw [e] at bt
      rw [if_pos ((ib_ush _ (by omega)).mpr bt)]
      have ew : wrow W m s = W := by unfold wrow; rw [if_neg (by rw [e]; simp)]
      rw [ew]
      exact ih (s + 1) g z W (by omega) (by omega) hL hW
    | true =>
      rw [e] at bt
      rw [if_neg (fun y => by rw [(ib_ush _ (by omega)).mp y] at bt; cases bt)]
      obtain ⟨z2, q1, q2, q3⟩ := ih (s + 1) g (si z 61 s (z.1 61 s ||| z.1 61 m)) (wrow W m s) (by omega) (by omega) (hL.of rfl) (hW.set (fun x hx => by rw [ib_or, hW s (by omega) x hx, hW m hm x hx, wrow_e, if_pos rfl, e, Bool.true_and]) (fun i hi x => by rw [wrow_e, if_neg hi]))
      exact ⟨z2, q1, q2, FrHo.si.trans q3⟩
theorem HW.l97 (hF : 100 ≤ F) (hN : N ≤ 32) : ∀ k m g z W, m + k = N → k < g → Lay sh n z → HW z N W → ∃ z', fn_X6_findRound_L97 F sh n (nI N) 60 g z (nI m) = fn_X6_findRound_L151 F sh n (nI N) 60 F z' 0 ∧ HW z' N (wOut N k m W) ∧ FrHo z z' := by
  intro k
  induction k with
  | zero =>
    intro m g z W es hg hL hW
    obtain ⟨g, rfl⟩ : ∃ q, g = q + 1 := ⟨g - 1, by omega⟩
    unfold fn_X6_findRound_L97
    rw [if_pos ((nI_leI (by omega) (by omega)).mpr (by omega))]
    exact ⟨z, rfl, hW, FrHo.rfl'⟩
  | succ k ih =>
    intro m g z W es hg hL hW
    obtain ⟨g, rfl⟩ : ∃ q, g = q + 1 := ⟨g - 1, by omega⟩
    obtain ⟨z1, a1, a2, a3⟩ := HW.l104 (F := F) hN hL (m := m) (by omega) (ko := fun z9 q2 => fn_X6_findRound_L97 F sh n (nI N) 60 g z9 q2) N 0 F z W (by omega) (by omega) hL hW
    have a1' : fn_X6_findRound_L104 F sh n (nI N) (nI m) 60 (fun z9 q2 => fn_X6_findRound_L97 F sh n (nI N) 60 g z9 q2) F z 0 = fn_X6_findRound_L97 F sh n (nI N) 60 g z1 (nI m + 1) := a1
    unfold fn_X6_findRound_L97
    rw [if_neg (fun y => by have := (nI_leI (by omega) (by omega)).mp y; omega), a1', nI_1]
    obtain ⟨z2, q1, q2, q3⟩ := ih (m + 1) g z1 _ (by omega) (by omega) (hL.of (by rw [a3.1])) a2
    exact ⟨z2, q1, q2, a3.trans q3⟩
end
