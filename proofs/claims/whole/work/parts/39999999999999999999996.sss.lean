/-! HOW DEEP STRUCTURES ARE: measuring, the class -/
def mxD (D : Nat → Nat) : List Ty → Nat → Nat
  | [], m => m
  | t :: ts, m => mxD D ts (if m < dT D t then dT D t else m)
def mS1 (U : Md) (D : Nat → Nat) (s : Nat) : Nat → Nat := fun x => if x = s then mxD D (fdsOf U s) 0 + 1 else D x
def mPs (U : Md) : Nat → Nat → (Nat → Nat) → Nat → Nat
  | 0, _, D => D
  | r + 1, s, D => mPs U r (s + 1) (mS1 U D s)
def mTn (U : Md) (own : Nat) : Nat → (Nat → Nat) → Nat → Nat
  | 0, D => D
  | r + 1, D => mTn U own r (mPs U own 0 D)
def mD0 (ws : Nat → Md) (wc : Nat) (dp : Nat → Nat → Nat) (U : Md) (s : Nat) : Nat := if s < U.1.2.1 then 0 else match wfi ws (U.2.2.2.1 s / 256) (wc + 1) 0 with
  | some i => dp i (U.2.2.2.1 s % 256)
  | none => 0
def mAll (ws : Nat → Md) (wc : Nat) (dp : Nat → Nat → Nat) (U : Md) : Nat → Nat := mTn U U.1.2.1 U.1.2.1 (mD0 ws wc dp U)
theorem mxD_le {D : Nat → Nat} {B : Nat} : ∀ (ts : List Ty) (m : Nat), m ≤ B → (∀ t, t ∈ ts → dT D t ≤ B) → mxD D ts m ≤ B
  | [], m, h, _ => h
  | t :: ts, m, h, ht => by
    have h1 := ht t (by simp)
    refine mxD_le ts _ ?_ (fun x hx => ht x (by simp [hx]))
    split <;> omega
def FrDp (kp : Nat) (z z' : St) : Prop := z'.2 = z.2 ∧ (∀ k, k ≠ kp + 3 → z'.1 k = z.1 k) ∧ ∀ s c, c < 6 → z'.1 (kp + 3) (7 * s + c) = z.1 (kp + 3) (7 * s + c)
theorem FrDp.rfl' {kp : Nat} {z : St} : FrDp kp z z := ⟨rfl, fun _ _ => rfl, fun _ _ _ => rfl⟩
theorem FrDp.trans {kp : Nat} {z z' z'' : St} (f : FrDp kp z z') (g : FrDp kp z' z'') : FrDp kp z z'' := ⟨g.1.trans f.1, fun k h => (g.2.1 k h).trans (f.2.1 k h), fun s c h => (g.2.2 s c h).trans (f.2.2 s c h)⟩
theorem FrDp.si {kp s : Nat} {z : St} {v : Int32} : FrDp kp z (si z (kp + 3) (7 * s + 6) v) := ⟨rfl, fun k h => si_ok h, fun s' c h => si_oj (by omega)⟩
def HD (z : St) (kp ns : Nat) (D : Nat → Nat) : Prop := ∀ s, s < ns → z.1 (kp + 3) (7 * s + 6) = nI (D s)
section
variable {F n : Nat} {sh : Nat → Nat × Nat} {z z' : St} {kp kb len : Nat} {b : Nat → Nat} {M : MP} {D : Nat → Nat} {ws : Nat → Md} {wc : Nat} {dp : Nat → Nat → Nat}
theorem CPr.frd (h : CPr sh n z kp kb b len M) (hk : 513 ≤ kb) (f : FrDp kp z z') : CPr sh n z' kp kb b len M := by
  have pn := isP_ne h.1.2.1
  obtain ⟨⟨a1, a2, a3, a4⟩, h2, h3, h4, h5⟩ := h
  have g : ∀ k, k ≠ kp + 3 → z'.1 k = z.1 k := f.2.1
  refine ⟨⟨a1.of (by rw [f.1]), a2, ?_, a4⟩, by rw [f.1]; exact h2, by rw [g kp (by omega)]; exact h3, h4, fun p hp => ?_⟩
  · obtain ⟨t1, t2, t3, t4, t5, t6, t7, t8, t9⟩ := a3
    refine ⟨by rw [g kp (by omega)]; exact t1, fun k hk => ?_, fun k hk => ?_, fun k hk => ?_, fun k hk => ?_, ?_, ?_, t8, t9⟩
    · have := t2 k hk
      unfold SRo at this ⊢
      rw [f.2.2 _ 0 (by omega), f.2.2 _ 1 (by omega), f.2.2 _ 2 (by omega), f.2.2 _ 3 (by omega), f.2.2 _ 4 (by omega), f.2.2 _ 5 (by omega)]
      exact this
    · have := t3 k hk
      unfold FoR at this ⊢
      rw [f.2.2 _ 0 (by omega), f.2.2 _ 3 (by omega), f.2.2 _ 4 (by omega), f.2.2 _ 5 (by omega)]
      exact this
    · have := t4 k hk; unfold CRo at this ⊢; rw [g (kp + 4) (by omega)]; exact this
    · have := t5 k hk; unfold GRo at this ⊢; rw [g (kp + 4) (by omega)]; exact this
    · unfold TyT at t6 ⊢; rw [g kp (by omega), f.1]; exact t6
    · unfold SrT at t7 ⊢; rw [g kp (by omega), g (kp + 2) (by omega)]; exact t7
  · rw [rb_fr (g kb (by omega))]
    exact h5 p hp
theorem CPr.setD (h : CPr sh n z kp kb b len M) {s : Nat} (hs : s < 64) (v : Int32) : fn_X5_setStructure F sh n z kp (nI s) 6 v = some (si z (kp + 3) (7 * s + 6) v, ()) := by
  obtain ⟨a0, a1, a2, a3, a4, a5, a6, a7, a8⟩ := b_prog h.1.1 h.1.2.1
  unfold fn_X5_setStructure
  have ei : nI s * 7 + 6 = nI (7 * s + 6) := by rw [show (7 : Int32) = nI 7 from rfl, pk_mul, show (6 : Int32) = nI 6 from rfl, nI_add, Nat.mul_comm]
  rw [if_neg (fun y => by have := (nIlt (x := 0) 0 rfl (by omega) (by omega)).mp y; omega), if_neg (fun y => by have := (nIge (x := 64) 64 rfl (by omega) (by omega)).mp y; omega), a0, grd_true, a3, lnk_s, ei, a7, okI_nI (by omega) (by omega), grd_true, lt_t, nI_clamp (by omega)]
theorem fd_pl (pk : PicOk b len M) {s i : Nat} (hs : s < M.1.length) (hi : i < (M.1.getD s dSP).2.2.length) : PlF ((M.1.getD s dSP).2.2.getD i []) := by
  have st := pk.1.2 _ (getD_m (d := dSP) hs)
  exact (AtL.nth (M.1.getD s dSP).2.2 _ i st.2.2.2.2.2.2 hi).1.pl
theorem dT_fd (hb : ∀ q, q < len → b q < 256) (pk : PicOk b len M) (hj : jM b M = none) {m : Nat} (hm : ∀ s, s < M.1.length + M.2.1.length → D s ≤ m) {s : Nat} (hs : s < M.1.length) : ∀ t, t ∈ (M.1.getD s dSP).2.2 → dT D t ≤ m + 7 := fun t ht => by
  have := ((mdO_of hb pk hj).2.2.1 s hs).2 t ht
  exact dT_le this.1.1 (fun x hx => hm x (this.1.2.2 x hx))
theorem CPr.m92 (hF : 300 ≤ F) (h : CPr sh n z kp kb b len M) (hj : jM b M = none) (hD : HD z kp (M.1.length + M.2.1.length) D) {B : Nat} (hB : ∀ s, s < M.1.length + M.2.1.length → D s ≤ B) (hB2 : B < 2 ^ 18) {s : Nat} (hs : s < M.1.length) {ko : St → Int32 → Option (St × Unit)} : ∀ r i m g, i + r = (M.1.getD s dSP).2.2.length → r < g → m ≤ B + 7 → fn_X5_measure_L92 F sh n kp (nI s) ko g z (nI m) (nI i) = ko (si z (kp + 3) (7 * s + 6) (nI (mxD D ((M.1.getD s dSP).2.2.drop i) m + 1))) (nI s + 1) := by
  have pk := h.1.2.2.2
  have l1 := pk.1.1
  have st := pk.1.2 _ (getD_m (d := dSP) hs)
  have f16 := st.2.2.2.2.2.1
  intro r
  induction r with
  | zero =>
    intro i m g ei hg hm
    obtain ⟨g, rfl⟩ : ∃ q, g = q + 1 := ⟨g - 1, by omega⟩
    unfold fn_X5_measure_L92
    rw [h.1.fields hs, cal_s, if_pos ((nI_leI (by omega) (by omega)).mpr (by omega)), nI_1, h.setD (by omega), cal_s, List.drop_of_length_le (by omega)]
    rfl
  | succ r ih =>
    intro i m g ei hg hm
    obtain ⟨g, rfl⟩ : ∃ q, g = q + 1 := ⟨g - 1, by omega⟩
    have il : i < (M.1.getD s dSP).2.2.length := by omega
    have tb := fd_tb h.hb pk hj hs il
    have dq := h.1.depthOf (F := F) (D := D) hF tb (fd_pl pk hs il) (fun x hx => ⟨hD x hx, by have := hB x hx; omega⟩)
    have dl := dT_fd h.hb pk hj hB hs _ (getD_m (d := ([] : Ty)) il)
    unfold fn_X5_measure_L92
    rw [h.1.fields hs, cal_s, if_neg (fun y => by have := (nI_leI (by omega) (by omega)).mp y; omega), h.1.field hs il, cal_s, dq, cal_s, lt_t, nI_1, drop_d (d := []) il]
    show _ = ko (si z (kp + 3) (7 * s + 6) (nI (mxD D ((M.1.getD s dSP).2.2.drop (i + 1)) (if m < dT D ((M.1.getD s dSP).2.2.getD i []) then dT D ((M.1.getD s dSP).2.2.getD i []) else m) + 1))) (nI s + 1)
    by_cases c : m < dT D ((M.1.getD s dSP).2.2.getD i [])
    · rw [if_pos ((nI_ltI (by omega) (by omega)).mpr c), if_pos c]
      exact ih (i + 1) _ g (by omega) (by omega) (by omega)
    · rw [if_neg (fun y => c ((nI_ltI (by omega) (by omega)).mp y)), if_neg c]
      exact ih (i + 1) _ g (by omega) (by omega) (by omega)
theorem mS1_le (hb : ∀ q, q < len → b q < 256) (pk : PicOk b len M) (hj : jM b M = none) {B : Nat} (hB : ∀ s, s < M.1.length + M.2.1.length → D s ≤ B) {s : Nat} (hs : s < M.1.length) : ∀ x, x < M.1.length + M.2.1.length → mS1 (mdOf b M) D s x ≤ B + 8 := fun x hx => by
  unfold mS1
  by_cases c : x = s
  · rw [if_pos c]
    have := mxD_le (D := D) (B := B + 7) (M.1.getD s dSP).2.2 0 (by omega) (dT_fd hb pk hj hB hs)
    have this' : mxD D (fdsOf (mdOf b M) s) 0 ≤ B + 7 := this
    omega
  · rw [if_neg c]; have := hB x hx; omega
theorem CPr.m78 (hF : 300 ≤ F) (hk : 513 ≤ kb) (hj : jM b M = none) (x : Int32) {ko : St → Int32 → Option (St × Unit)} : ∀ r s g z D B, CPr sh n z kp kb b len M → HD z kp (M.1.length + M.2.1.length) D → (∀ s, s < M.1.length + M.2.1.length → D s ≤ B) → B + 8 * r < 2 ^ 18 → s + r = M.1.length → r < g → ∃ z', fn_X5_measure_L78 F sh n kp x ko g z (nI s) = ko z' (x + 1) ∧ CPr sh n z' kp kb b len M ∧ HD z' kp (M.1.length + M.2.1.length) (mPs (mdOf b M) r s D) ∧ (∀ s', s' < M.1.length + M.2.1.length → mPs (mdOf b M) r s D s' ≤ B + 8 * r) ∧ FrDp kp z z' := by
  intro r
  induction r with
  | zero =>
    intro s g z D B h hD hB hB2 es hg
    obtain ⟨g, rfl⟩ : ∃ q, g = q + 1 := ⟨g - 1, by omega⟩
    have l1 := h.1.2.2.2.1.1
    unfold fn_X5_measure_L78
    rw [h.1.2.2.1.1.2.1, if_pos ((nI_leI (by omega) (by omega)).mpr (by omega))]
    exact ⟨z, rfl, h, hD, hB, FrDp.rfl'⟩
  | succ r ih =>
    intro s g z D B h hD hB hB2 es hg
    obtain ⟨g, rfl⟩ : ∃ q, g = q + 1 := ⟨g - 1, by omega⟩
    have pk := h.1.2.2.2
    have l1 := pk.1.1
    have hs : s < M.1.length := by omega
    have st := pk.1.2 _ (getD_m (d := dSP) hs)
    have f16 := st.2.2.2.2.2.1
    have q := h.m92 (F := F) hF hj hD hB (by omega) hs (ko := fun z9 q3 => fn_X5_measure_L78 F sh n kp x ko g z9 q3) (M.1.getD s dSP).2.2.length 0 0 F (by omega) (by omega) (by omega)
    have q' : fn_X5_measure_L92 F sh n kp (nI s) (fun z9 q3 => fn_X5_measure_L78 F sh n kp x ko g z9 q3) F z 0 0 = fn_X5_measure_L78 F sh n kp x ko g (si z (kp + 3) (7 * s + 6) (nI (mxD D (M.1.getD s dSP).2.2 0 + 1))) (nI s + 1) := q
    have f1 : FrDp kp z (si z (kp + 3) (7 * s + 6) (nI (mxD D (M.1.getD s dSP).2.2 0 + 1))) := FrDp.si
    have hD1 : HD (si z (kp + 3) (7 * s + 6) (nI (mxD D (M.1.getD s dSP).2.2 0 + 1))) kp (M.1.length + M.2.1.length) (mS1 (mdOf b M) D s) := fun y hy => by
      unfold mS1
      by_cases c : y = s
      · subst c; rw [si_ss, if_pos rfl]; rfl
      · rw [si_oj (by omega), if_neg c]; exact hD y hy
    obtain ⟨z2, s1, s2, s3, s4, s5⟩ := ih (s + 1) g _ (mS1 (mdOf b M) D s) (B + 8) (h.frd hk f1) hD1 (mS1_le h.hb pk hj hB hs) (by omega) (by omega) (by omega)
    unfold fn_X5_measure_L78
    rw [h.1.2.2.1.1.2.1, if_neg (fun y => by have := (nI_leI (by omega) (by omega)).mp y; omega), q', nI_1]
    exact ⟨z2, s1, s2, s3, fun x hx => by have := s4 x hx; show mPs (mdOf b M) r (s + 1) (mS1 (mdOf b M) D s) x ≤ _; omega, f1.trans s5⟩
theorem CPr.m68 (hF : 300 ≤ F) (hk : 513 ≤ kb) (hj : jM b M = none) : ∀ r p g z D B, CPr sh n z kp kb b len M → HD z kp (M.1.length + M.2.1.length) D → (∀ s, s < M.1.length + M.2.1.length → D s ≤ B) → B + 256 * r < 2 ^ 18 → p + r = M.1.length → r < g → ∃ z', fn_X5_measure_L68 F sh n kp g z (nI p) = some (z', ()) ∧ CPr sh n z' kp kb b len M ∧ HD z' kp (M.1.length + M.2.1.length) (mTn (mdOf b M) M.1.length r D) ∧ (∀ s', s' < M.1.length + M.2.1.length → mTn (mdOf b M) M.1.length r D s' ≤ B + 256 * r) ∧ FrDp kp z z' := by
  intro r
  induction r with
  | zero =>
    intro p g z D B h hD hB hB2 es hg
    obtain ⟨g, rfl⟩ : ∃ q, g = q + 1 := ⟨g - 1, by omega⟩
    have l1 := h.1.2.2.2.1.1
    unfold fn_X5_measure_L68
    rw [h.1.2.2.1.1.2.1, if_pos ((nI_leI (by omega) (by omega)).mpr (by omega))]
    exact ⟨z, rfl, h, hD, hB, FrDp.rfl'⟩
  | succ r ih =>
    intro p g z D B h hD hB hB2 es hg
    obtain ⟨g, rfl⟩ : ∃ q, g = q + 1 := ⟨g - 1, by omega⟩
    have l1 := h.1.2.2.2.1.1
    obtain ⟨z1, a1, a2, a3, a4, a5⟩ := CPr.m78 (F := F) hF hk hj (nI p) (ko := fun z9 q2 => fn_X5_measure_L68 F sh n kp g z9 q2) M.1.length 0 F z D B h hD hB (by omega) (by omega) (by omega)
    have a1' : fn_X5_measure_L78 F sh n kp (nI p) (fun z9 q2 => fn_X5_measure_L68 F sh n kp g z9 q2) F z 0 = fn_X5_measure_L68 F sh n kp g z1 (nI p + 1) := a1
    obtain ⟨z2, s1, s2, s3, s4, s5⟩ := ih (p + 1) g z1 (mPs (mdOf b M) M.1.length 0 D) (B + 256) a2 a3 (fun x hx => by have := a4 x hx; omega) (by omega) (by omega) (by omega)
    unfold fn_X5_measure_L68
    rw [h.1.2.2.1.1.2.1, if_neg (fun y => by have := (nI_leI (by omega) (by omega)).mp y; omega), a1', nI_1]
    exact ⟨z2, s1, s2, s3, fun x hx => by have := s4 x hx; show mTn (mdOf b M) M.1.length r (mPs (mdOf b M) M.1.length 0 D) x ≤ _; omega, a5.trans s5⟩
end
