/-! MISFITS, THE REFERENCE: measuring -/
def FrMe (u : Nat) (z z' : St) : Prop := z'.2 = z.2 ∧ (∀ k, k ≠ 342 → z'.1 k = z.1 k) ∧ ∀ j, ¬ (64 * u ≤ j ∧ j < 64 * u + 64) → z'.1 342 j = z.1 342 j
theorem FrMe.rfl' {u : Nat} {z : St} : FrMe u z z := ⟨rfl, fun _ _ => rfl, fun _ _ => rfl⟩
theorem FrMe.trans {u : Nat} {z z' z'' : St} (f : FrMe u z z') (g : FrMe u z' z'') : FrMe u z z'' := ⟨g.1.trans f.1, fun k h => (g.2.1 k h).trans (f.2.1 k h), fun j h => (g.2.2 j h).trans (f.2.2 j h)⟩
theorem FrMe.si {u s : Nat} {z : St} {v : Int32} (hs : s < 64) : FrMe u z (si z 342 (64 * u + s) v) := ⟨rfl, fun k h => si_ok h, fun j h => si_oj (by omega)⟩
def HR (z : St) (u ns : Nat) (D : Nat → Nat) : Prop := ∀ s, s < ns → z.1 342 (64 * u + s) = nI (D s)
theorem UM.fm' {sh : Nat → Nat × Nat} {n ku len : Nat} {z z' : St} {b : Nat → Nat} {M : MP} (h : UM sh n z ku b len M) (f2 : z'.2 = z.2) (g : ∀ k, 423 ≤ k → z'.1 k = z.1 k) : UM sh n z' ku b len M := by
  obtain ⟨⟨u1, u2, u3, u4, u5⟩, ⟨t1, t2, t3, t4, t5, t6, t7, t8, t9, t10, t11⟩, h3⟩ := h
  have hk : 423 ≤ ku := by obtain ⟨i, _, e⟩ := u2; omega
  refine ⟨⟨u1.of (by rw [f2]), u2, by rw [g ku hk]; exact u3, u4, fun p hp => by rw [g (ku + 1) (by omega)]; exact u5 p hp⟩, ⟨by rw [g ku hk]; exact t1, fun k hk2 => by rw [g (ku + 2) (by omega)]; exact t2 k hk2, by rw [g ku hk]; exact t3, fun k hk2 => by rw [g (ku + 2) (by omega)]; exact t4 k hk2, by rw [g ku hk]; exact t5, fun k hk2 => by rw [g (ku + 3) (by omega)]; exact t6 k hk2, by rw [g ku hk]; exact t7, fun k hk2 => by rw [g (ku + 4) (by omega)]; exact t8 k hk2, by rw [g ku hk]; exact t9, ⟨by rw [g ku hk]; exact t10.1, fun j hj => by rw [g (ku + 7) (by omega)]; exact t10.2 j hj⟩, fun f hf => by rw [g (ku + 5) (by omega), g (ku + 6) (by omega)]; exact t11 f hf⟩, h3⟩
section
variable {F n : Nat} {sh : Nat → Nat × Nat} {z z' : St} {ku len : Nat} {b : Nat → Nat} {M : MP} {D : Nat → Nat} {ws : Nat → Md} {wc u : Nat} {dp : Nat → Nat → Nat}
theorem UM.fme (h : UM sh n z ku b len M) (f : FrMe u z z') : UM sh n z' ku b len M := h.fm' f.1 (fun k hk => f.2.1 k (by omega))
theorem RWo.fme (h : RWo sh n z ws wc dp) (hu : u = wc + 1) (f : FrMe u z z') (l32 : ∀ i, 1 ≤ i → i ≤ wc → (ws i).1.2.1 ≤ 32) : RWo sh n z' ws wc dp := by
  obtain ⟨h1, h2, h3, h4⟩ := h
  refine ⟨h1.of (by rw [f.1]), by rw [f.2.1 337 (by omega)]; exact h2, h3, fun i q1 q2 => ?_⟩
  obtain ⟨⟨b, len, M, c1, c2⟩, c3⟩ := h4 i q1 q2
  have := l32 i q1 q2
  exact ⟨⟨b, len, M, c1.fme f, c2⟩, fun s hs => by rw [f.2.2 _ (by omega)]; exact c3 s hs⟩
theorem UM.m129 (hF : 300 ≤ F) (h : UM sh n z ku b len M) (hj : jM b M = none) (hu : u < 10) (hD : HR z u (M.1.length + M.2.1.length) D) {B : Nat} (hB : ∀ s, s < M.1.length + M.2.1.length → D s ≤ B) (hB2 : B < 2 ^ 18) {s : Nat} (hs : s < M.1.length) {ko : St → Int32 → Option (St × Unit)} : ∀ r i m g, i + r = (M.1.getD s dSP).2.2.length → r < g → m ≤ B + 7 → fn_X18_measure_L129 F sh n ku (nI s) 337 (nI u) ko g z (nI m) (nI i) = ko (si z 342 (64 * u + s) (nI (mxD D ((M.1.getD s dSP).2.2.drop i) m + 1))) (nI s + 1) := by
  have pk := h.2.2
  have hb : ∀ q, q < len → b q < 256 := fun q hq => (h.1.2.2.2.2 q hq).2
  have hL := h.1.1
  have l1 := pk.1.1
  have l2 := pk.2.1.1
  have m6 := hL.2.2 337 6 342 rfl
  have oa : ∀ i, okA sh n 342 101 i = okI i 640 := lay_a hL 342 101 640 (by decide) rfl
  have st := pk.1.2 _ (getD_m (d := dSP) hs)
  have f16 := st.2.2.2.2.2.1
  intro r
  induction r with
  | zero =>
    intro i m g ei hg hm
    obtain ⟨g, rfl⟩ : ∃ q, g = q + 1 := ⟨g - 1, by omega⟩
    have gi : (64 : Int32) * nI u + nI s = nI (64 * u + s) := by rw [show (64 : Int32) * nI u = nI (64 * u) from pk_mul 64 u, nI_add]
    unfold fn_X18_measure_L129
    rw [h.fieldsOf hs, cal_s, if_pos ((nI_leI (by omega) (by omega)).mpr (by omega)), m6, lnk_s, gi, oa, okI_nI (by omega) (by omega), grd_true, nI_clamp (by omega), lt_t, show (1 : Int32) + nI m = nI (1 + m) from nI_add 1 m, List.drop_of_length_le (by omega), Nat.add_comm 1 m]
    rfl
  | succ r ih =>
    intro i m g ei hg hm
    obtain ⟨g, rfl⟩ : ∃ q, g = q + 1 := ⟨g - 1, by omega⟩
    have il : i < (M.1.getD s dSP).2.2.length := by omega
    have tb := fd_tb hb pk hj hs il
    have dq := depR (F := F) (D := D) hF hL hu (ns := M.1.length + M.2.1.length) (by omega) tb (fun x hx => ⟨hD x hx, by have := hB x hx; omega⟩)
    have dl := dT_fd hb pk hj hB hs _ (getD_m (d := ([] : Ty)) il)
    unfold fn_X18_measure_L129
    rw [h.fieldsOf hs, cal_s, if_neg (fun y => by have := (nI_leI (by omega) (by omega)).mp y; omega), h.field hF hs il, cal_s, dq, cal_s, lt_t, nI_1, drop_d (d := []) il]
    show _ = ko (si z 342 (64 * u + s) (nI (mxD D ((M.1.getD s dSP).2.2.drop (i + 1)) (if m < dT D ((M.1.getD s dSP).2.2.getD i []) then dT D ((M.1.getD s dSP).2.2.getD i []) else m) + 1))) (nI s + 1)
    by_cases c : m < dT D ((M.1.getD s dSP).2.2.getD i [])
    · rw [if_pos ((nI_ltI (by omega) (by omega)).mpr c), if_pos c]
      exact ih (i + 1) _ g (by omega) (by omega) (by omega)
    · rw [if_neg (fun y => c ((nI_ltI (by omega) (by omega)).mp y)), if_neg c]
      exact ih (i + 1) _ g (by omega) (by omega) (by omega)
theorem UM.m114 (hF : 300 ≤ F) (hj : jM b M = none) (hu : u < 10) (x : Int32) {ko : St → Int32 → Option (St × Unit)} : ∀ r s g z D B, UM sh n z ku b len M → HR z u (M.1.length + M.2.1.length) D → (∀ s, s < M.1.length + M.2.1.length → D s ≤ B) → B + 8 * r < 2 ^ 18 → s + r = M.1.length → r < g → ∃ z', fn_X18_measure_L114 F sh n ku x 337 (nI u) ko g z (nI s) = ko z' (x + 1) ∧ UM sh n z' ku b len M ∧ HR z' u (M.1.length + M.2.1.length) (mPs (mdOf b M) r s D) ∧ (∀ s', s' < M.1.length + M.2.1.length → mPs (mdOf b M) r s D s' ≤ B + 8 * r) ∧ FrMe u z z' := by
  intro r
  induction r with
  | zero =>
    intro s g z D B h hD hB hB2 es hg
    obtain ⟨g, rfl⟩ : ∃ q, g = q + 1 := ⟨g - 1, by omega⟩
    have l1 := h.2.2.1.1
    unfold fn_X18_measure_L114
    rw [h.2.1.1, if_pos ((nI_leI (by omega) (by omega)).mpr (by omega))]
    exact ⟨z, rfl, h, hD, hB, FrMe.rfl'⟩
  | succ r ih =>
    intro s g z D B h hD hB hB2 es hg
    obtain ⟨g, rfl⟩ : ∃ q, g = q + 1 := ⟨g - 1, by omega⟩
    have pk := h.2.2
    have hb : ∀ q, q < len → b q < 256 := fun q hq => (h.1.2.2.2.2 q hq).2
    have l1 := pk.1.1
    have hs : s < M.1.length := by omega
    have st := pk.1.2 _ (getD_m (d := dSP) hs)
    have f16 := st.2.2.2.2.2.1
    have q := h.m129 (F := F) hF hj hu hD hB (by omega) hs (ko := fun z9 q4 => fn_X18_measure_L114 F sh n ku x 337 (nI u) ko g z9 q4) (M.1.getD s dSP).2.2.length 0 0 F (by omega) (by omega) (by omega)
    have q' : fn_X18_measure_L129 F sh n ku (nI s) 337 (nI u) (fun z9 q4 => fn_X18_measure_L114 F sh n ku x 337 (nI u) ko g z9 q4) F z 0 0 = fn_X18_measure_L114 F sh n ku x 337 (nI u) ko g (si z 342 (64 * u + s) (nI (mxD D (M.1.getD s dSP).2.2 0 + 1))) (nI s + 1) := q
    have f1 : FrMe u z (si z 342 (64 * u + s) (nI (mxD D (M.1.getD s dSP).2.2 0 + 1))) := FrMe.si (by omega)
    have hD1 : HR (si z 342 (64 * u + s) (nI (mxD D (M.1.getD s dSP).2.2 0 + 1))) u (M.1.length + M.2.1.length) (mS1 (mdOf b M) D s) := fun y hy => by
      unfold mS1
      by_cases c : y = s
      · subst c; rw [si_ss, if_pos rfl]; rfl
      · rw [si_oj (by omega), if_neg c]; exact hD y hy
    obtain ⟨z2, s1, s2, s3, s4, s5⟩ := ih (s + 1) g _ (mS1 (mdOf b M) D s) (B + 8) (h.fme f1) hD1 (mS1_le hb pk hj hB hs) (by omega) (by omega) (by omega)
    unfold fn_X18_measure_L114
    rw [h.2.1.1, if_neg (fun y => by have := (nI_leI (by omega) (by omega)).mp y; omega), q', nI_1]
    exact ⟨z2, s1, s2, s3, fun x hx => by have := s4 x hx; show mPs (mdOf b M) r (s + 1) (mS1 (mdOf b M) D s) x ≤ _; omega, f1.trans s5⟩
theorem UM.m103 (hF : 300 ≤ F) (hj : jM b M = none) (hu : u < 10) : ∀ r p g z D B, UM sh n z ku b len M → HR z u (M.1.length + M.2.1.length) D → (∀ s, s < M.1.length + M.2.1.length → D s ≤ B) → B + 256 * r < 2 ^ 18 → p + r = M.1.length → r < g → ∃ z', fn_X18_measure_L103 F sh n ku 337 (nI u) g z (nI p) = some (z', ()) ∧ UM sh n z' ku b len M ∧ HR z' u (M.1.length + M.2.1.length) (mTn (mdOf b M) M.1.length r D) ∧ (∀ s', s' < M.1.length + M.2.1.length → mTn (mdOf b M) M.1.length r D s' ≤ B + 256 * r) ∧ FrMe u z z' := by
  intro r
  induction r with
  | zero =>
    intro p g z D B h hD hB hB2 es hg
    obtain ⟨g, rfl⟩ : ∃ q, g = q + 1 := ⟨g - 1, by omega⟩
    have l1 := h.2.2.1.1
    unfold fn_X18_measure_L103
    rw [h.2.1.1, if_pos ((nI_leI (by omega) (by omega)).mpr (by omega))]
    exact ⟨z, rfl, h, hD, hB, FrMe.rfl'⟩
  | succ r ih =>
    intro p g z D B h hD hB hB2 es hg
    obtain ⟨g, rfl⟩ : ∃ q, g = q + 1 := ⟨g - 1, by omega⟩
    have l1 := h.2.2.1.1
    obtain ⟨z1, a1, a2, a3, a4, a5⟩ := UM.m114 (F := F) hF hj hu (nI p) (ko := fun z9 q3 => fn_X18_measure_L103 F sh n ku 337 (nI u) g z9 q3) M.1.length 0 F z D B h hD hB (by omega) (by omega) (by omega)
    have a1' : fn_X18_measure_L114 F sh n ku (nI p) 337 (nI u) (fun z9 q3 => fn_X18_measure_L103 F sh n ku 337 (nI u) g z9 q3) F z 0 = fn_X18_measure_L103 F sh n ku 337 (nI u) g z1 (nI p + 1) := a1
    obtain ⟨z2, s1, s2, s3, s4, s5⟩ := ih (p + 1) g z1 (mPs (mdOf b M) M.1.length 0 D) (B + 256) a2 a3 (fun x hx => by have := a4 x hx; omega) (by omega) (by omega) (by omega)
    unfold fn_X18_measure_L103
    rw [h.2.1.1, if_neg (fun y => by have := (nI_leI (by omega) (by omega)).mp y; omega), a1', nI_1]
    exact ⟨z2, s1, s2, s3, fun x hx => by have := s4 x hx; show mTn (mdOf b M) M.1.length r (mPs (mdOf b M) M.1.length 0 D) x ≤ _; omega, a5.trans s5⟩
end
