/-! THE REFERENCE'S UNIT: judging lists and instructions -/
def jIn (b : Nat → Nat) (own all : Nat) (fds : Nat → Nat) (fns els loc many p : Nat) : Flt := if 1 < b p ∧ b p < 5 then (if many ≤ shB b (p + 1) then some (13, p + 1) else none) else if 10 < b p ∧ b p < 16 then (if loc ≤ b (p + 1) then some (10, p + 1) else none) else if b p = 16 ∨ b p = 17 then orE (jOwn b own all (p + 1)) (if fds (b (p + 1)) ≤ b (p + 2) then some (9, p + 2) else none) else if b p = 21 ∨ b p = 22 ∨ (46 < b p ∧ b p < 52) then jOwn b own all (p + 1) else if b p = 23 then (if fns ≤ b (p + 1) then some (11, p + 1) else none) else if 51 < b p ∧ b p < 59 then (if els ≤ b (p + 1) then some (12, p + 1) else none) else none
section
variable {F n : Nat} {sh : Nat → Nat × Nat} {z0 z z' : St} {ku len : Nat} {b : Nat → Nat} {M : MP} {r : Flt}
theorem JS.lookLst (hF : 300 ≤ F) (h : UM sh n z0 ku b len M) {ts : List Ty} {p : Nat} (hl : Lst b len p ts) (j : JS ku z0 z r) : ∃ z', fn_X16_lookList F sh n z ku (nI p) = some (z', nI (endL (p + 1) ts)) ∧ JS ku z0 z' (orE r (jTs (M.1.length + M.2.1.length) (p + 1) ts)) := by
  obtain ⟨h1, h2, h3, h4⟩ := hl
  have um := JS.um h j
  have lp : ∀ (us : List Ty) (m g q : Nat) (z1 : St) (s : Flt), m + us.length = ts.length → us.length < g → AtL b len true q us → JS ku z0 z1 s → ∃ z', fn_X16_lookList_L13 F sh n (nI ts.length) ku g z1 (nI q) (nI m) = some (z', nI (endL q us)) ∧ JS ku z0 z' (orE s (jTs (M.1.length + M.2.1.length) q us)) := by
    intro us
    induction us with
    | nil =>
      intro m g q z1 s em hg ha j1
      obtain ⟨g, rfl⟩ : ∃ q, g = q + 1 := ⟨g - 1, by omega⟩
      have em' : m = ts.length := by simpa using em
      unfold fn_X16_lookList_L13
      rw [if_pos ((nI_leI (by omega) (by omega)).mpr (by omega))]
      refine ⟨z1, rfl, ?_⟩
      show JS ku z0 z1 (orE s none)
      rw [orE_n]; exact j1
    | cons t us ih =>
      intro m g q z1 s em hg ha j1
      obtain ⟨g, rfl⟩ : ∃ q, g = q + 1 := ⟨g - 1, by omega⟩
      have em' : m + (us.length + 1) = ts.length := em
      have hg' : us.length + 1 < g + 1 := hg
      obtain ⟨z2, s1, s2⟩ := j1.lookType (F := F) hF h ha.1
      obtain ⟨z3, t1, t2⟩ := ih (m + 1) g (q + t.length) z2 _ (by omega) (by omega) ha.2 s2
      refine ⟨z3, ?_, ?_⟩
      · conv => lhs; unfold fn_X16_lookList_L13
        rw [if_neg (fun x => by have := (nI_leI (by omega) (by omega)).mp x; omega), s1, cal_s, nI_1, t1]
        rfl
      · rw [orE_a] at t2; exact t2
  unfold fn_X16_lookList
  rw [um.1.o, grd_true, um.1.byte h1, cal_s, nI_1, lt_t, h2]
  exact lp ts 0 F (p + 1) z r (by omega) (by omega) h4 j
theorem JS.lookOwn (h : UM sh n z0 ku b len M) (j : JS ku z0 z r) {p : Nat} (hp : p < len) : ∃ z', fn_X16_lookOwn F sh n z ku (nI p) = some (z', ()) ∧ JS ku z0 z' (orE r (jOwn b M.1.length (M.1.length + M.2.1.length) p)) := by
  have um := JS.um h j
  have l32 := um.2.2.1.1
  have l33 := um.2.2.2.1.1
  have b8 := (um.1.2.2.2.2 p hp).2
  unfold fn_X16_lookOwn jOwn
  rw [um.1.o, grd_true, um.1.byte hp, cal_s, um.2.1.1, um.2.1.2.2.1, nI_add, um.1.byte hp, cal_s, um.2.1.1]
  by_cases c : M.1.length + M.2.1.length ≤ b p
  · obtain ⟨z', q1, q2⟩ := j.fail (F := F) h (w := 7) (q := p) (by omega) (by omega)
    have q1' : fn_X16_fail F sh n z ku 7 (nI p) = some (z', ()) := q1
    rw [if_neg (fun x => by have := (nI_ltI (by omega) (by omega)).mp x; omega), q1', cal_s, if_pos c]
    exact ⟨z', rfl, q2⟩
  rw [if_pos ((nI_ltI (by omega) (by omega)).mpr (by omega)), if_neg c]
  by_cases d : M.1.length ≤ b p
  · obtain ⟨z', q1, q2⟩ := j.fail (F := F) h (w := 8) (q := p) (by omega) (by omega)
    have q1' : fn_X16_fail F sh n z ku 8 (nI p) = some (z', ()) := q1
    rw [if_neg (fun x => by have := (nI_ltI (by omega) (by omega)).mp x; omega), q1', cal_s, if_pos d]
    exact ⟨z', rfl, q2⟩
  · rw [if_pos ((nI_ltI (by omega) (by omega)).mpr (by omega)), if_neg d, orE_n]
    exact ⟨z, rfl, j⟩
/-- a number against a bound -/
theorem JS.bnd (h : UM sh n z0 ku b len M) (j : JS ku z0 z none) {v m w q : Nat} {iw : Int32} (hv : v < 65536) (hm : m < 65536) (ew : iw = nI w) (h0 : 0 < w) (h16 : w < 16) : ∃ z', (if nI v < nI m then some (z, ()) else cal (fn_X16_fail F sh n z ku iw (nI q)) (fun z_60 _ => some (z_60, ()))) = some (z', ()) ∧ JS ku z0 z' (if m ≤ v then some (w, q) else none) := by
  subst ew
  by_cases c : m ≤ v
  · obtain ⟨z', q1, q2⟩ := j.fail (F := F) h (w := w) (q := q) h0 h16
    rw [if_neg (fun x => by have := (nI_ltI (by omega) (by omega)).mp x; omega), q1, cal_s, if_pos c]
    exact ⟨z', rfl, q2⟩
  · rw [if_pos ((nI_ltI (by omega) (by omega)).mpr (by omega)), if_neg c]
    exact ⟨z, rfl, j⟩
theorem JS.lookIn (h : UM sh n z0 ku b len M) (j : JS ku z0 z none) {p loc many : Nat} (hp : InP b len p) (h1 : loc < 65536) (h2 : many < 65536) : ∃ z', fn_X16_lookInstruction F sh n z ku (nI p) (nI loc) (nI many) = some (z', ()) ∧ JS ku z0 z' (jIn b M.1.length (M.1.length + M.2.1.length) (fun k => (M.1.getD k dSP).2.2.length) (M.2.2.2.2.length + M.2.2.1.length) M.2.2.2.1.length loc many p) := by
  have um := JS.um h j
  obtain ⟨p1, p2, p3, p4⟩ := hp
  have l32 := um.2.2.1.1
  have l33 := um.2.2.2.1.1
  have lc := um.2.2.2.2.1.1
  have le := um.2.2.2.2.2.1.1
  have lg := um.2.2.2.2.2.2.1
  have E : ∀ (m : Nat) (x : Int32), x = nI m → m < 100 → (nI (b p) = x ↔ b p = m) := fun m x e hm => nIe m e (by omega) (by omega)
  have by1 : opB (b p) ≠ 0 → fn_X16_byteAt F sh n z ku (nI (p + 1)) = some (z, nI (b (p + 1))) ∧ b (p + 1) < 256 := fun q => ⟨um.1.byte (by omega), (um.1.2.2.2.2 (p + 1) (by omega)).2⟩
  unfold fn_X16_lookInstruction jIn
  rw [um.1.o, grd_true, um.1.byte p1, cal_s]
  have b178 : ¬ (1 < b p ∧ b p < 5) → ¬ (10 < b p ∧ b p < 16) → ¬ (b p = 16 ∨ b p = 17) → ¬ (b p = 21 ∨ b p = 22 ∨ (46 < b p ∧ b p < 52)) → ∃ z', fn_X16_lookInstruction_B178 F sh n (nI (b p)) ku (nI p) z = some (z', ()) ∧ JS ku z0 z' (if b p = 23 then (if M.2.2.2.2.length + M.2.2.1.length ≤ b (p + 1) then some (11, p + 1) else none) else if 51 < b p ∧ b p < 59 then (if M.2.2.2.1.length ≤ b (p + 1) then some (12, p + 1) else none) else none) := fun x1 x2 x3 x4 => by
    unfold fn_X16_lookInstruction_B178
    rw [nI_1]
    by_cases c : b p = 23
    · have o1 : opB (b p) ≠ 0 := by rw [c]; decide
      obtain ⟨y1, y2⟩ := by1 o1
      obtain ⟨z', q1, q2⟩ := j.bnd (F := F) h (v := b (p + 1)) (m := M.2.2.2.2.length + M.2.2.1.length) (w := 11) (q := p + 1) (iw := 11) (by omega) (by omega) rfl (by omega) (by omega)
      rw [if_pos ((E 23 23 rfl (by omega)).mpr c), y1, cal_s, um.2.1.2.2.2.2.2.2.2.2.1, um.2.1.2.2.2.2.1, nI_add, q1, if_pos c]
      exact ⟨z', rfl, q2⟩
    rw [if_neg (fun q => c ((E 23 23 rfl (by omega)).mp q)), if_neg c]
    by_cases d : b p ≤ 51
    · rw [if_pos ((nIle (x := 51) 51 rfl (by omega) (by omega)).mpr d), if_neg (show ¬ (51 < b p ∧ b p < 59) by omega)]
      exact ⟨z, rfl, j⟩
    rw [if_neg (fun q => d ((nIle (x := 51) 51 rfl (by omega) (by omega)).mp q))]
    by_cases e : 59 ≤ b p
    · rw [if_pos ((nIge (x := 59) 59 rfl (by omega) (by omega)).mpr e), if_neg (show ¬ (51 < b p ∧ b p < 59) by omega)]
      exact ⟨z, rfl, j⟩
    · have o1 : opB (b p) ≠ 0 := by
        have : ∀ o, o < 59 → 51 < o → opB o ≠ 0 := by decide
        exact this (b p) (by omega) (by omega)
      obtain ⟨y1, y2⟩ := by1 o1
      obtain ⟨z', q1, q2⟩ := j.bnd (F := F) h (v := b (p + 1)) (m := M.2.2.2.1.length) (w := 12) (q := p + 1) (iw := 12) (by omega) (by omega) rfl (by omega) (by omega)
      rw [if_neg (fun q => e ((nIge (x := 59) 59 rfl (by omega) (by omega)).mp q)), y1, cal_s, um.2.1.2.2.2.2.2.2.1, q1, if_pos (show 51 < b p ∧ b p < 59 by omega)]
      exact ⟨z', rfl, q2⟩
  have own : opB (b p) ≠ 0 → ∃ z', fn_X16_lookOwn F sh n z ku (nI (p + 1)) = some (z', ()) ∧ JS ku z0 z' (jOwn b M.1.length (M.1.length + M.2.1.length) (p + 1)) := fun q => j.lookOwn (F := F) h (by omega)
  have b79 : ¬ (1 < b p ∧ b p < 5) → ¬ (10 < b p ∧ b p < 16) → ∃ z', fn_X16_lookInstruction_B79 F sh n (nI (b p)) ku (nI p) z = some (z', ()) ∧ JS ku z0 z' (if b p = 16 ∨ b p = 17 then orE (jOwn b M.1.length (M.1.length + M.2.1.length) (p + 1)) (if (M.1.getD (b (p + 1)) dSP).2.2.length ≤ b (p + 2) then some (9, p + 2) else none) else if b p = 21 ∨ b p = 22 ∨ (46 < b p ∧ b p < 52) then jOwn b M.1.length (M.1.length + M.2.1.length) (p + 1) else if b p = 23 then (if M.2.2.2.2.length + M.2.2.1.length ≤ b (p + 1) then some (11, p + 1) else none) else if 51 < b p ∧ b p < 59 then (if M.2.2.2.1.length ≤ b (p + 1) then some (12, p + 1) else none) else none) := fun x1 x2 => by
    have b93 : (b p = 16 ∨ b p = 17) → ∃ z', fn_X16_lookInstruction_B93 F sh n ku (nI p) z = some (z', ()) ∧ JS ku z0 z' (orE (jOwn b M.1.length (M.1.length + M.2.1.length) (p + 1)) (if (M.1.getD (b (p + 1)) dSP).2.2.length ≤ b (p + 2) then some (9, p + 2) else none)) := fun hh => by
      have o2 : opB (b p) = 2 := by rcases hh with e | e <;> rw [e] <;> rfl
      obtain ⟨z1, q1, q2⟩ := own (by omega)
      have um1 := JS.um h q2
      unfold fn_X16_lookInstruction_B93
      rw [nI_1, q1, cal_s, q2.good h, cal_s]
      cases eo : jOwn b M.1.length (M.1.length + M.2.1.length) (p + 1) with
      | some e =>
        rw [eo] at q2
        rw [if_pos (show bI (some e).isNone = 0 from rfl)]
        exact ⟨z1, rfl, q2⟩
      | none =>
        rw [eo] at q2
        have bo : b (p + 1) < M.1.length := by
          unfold jOwn at eo
          by_cases c1 : M.1.length + M.2.1.length ≤ b (p + 1)
          · rw [if_pos c1] at eo; cases eo
          rw [if_neg c1] at eo
          by_cases c2 : M.1.length ≤ b (p + 1)
          · rw [if_pos c2] at eo; cases eo
          · omega
        have b2 := (um.1.2.2.2.2 (p + 2) (by omega)).2
        have f16 := (um1.sAt bo).2.2.2.2.2.2.2.2.2.1
        obtain ⟨z', y1, y2⟩ := q2.bnd (F := F) h (v := b (p + 2)) (m := (M.1.getD (b (p + 1)) dSP).2.2.length) (w := 9) (q := p + 2) (iw := 9) (by omega) (by omega) rfl (by omega) (by omega)
        rw [if_neg (show ¬ bI (none : Flt).isNone = 0 from one0), show (2 : Int32) = nI 2 from rfl, nI_add, um1.1.byte (by omega), cal_s, um1.1.byte (by omega), cal_s, um1.fieldsOf bo, cal_s, y1]
        exact ⟨z', rfl, y2⟩
    unfold fn_X16_lookInstruction_B79
    by_cases c6 : b p = 16 ∨ b p = 17
    · obtain ⟨z', q1, q2⟩ := b93 c6
      refine ⟨z', ?_, by rw [if_pos c6]; exact q2⟩
      rw [q1]
      by_cases d : nI (b p) = 16
      · rw [if_pos d]
      · rw [if_neg d, if_pos ((E 17 17 rfl (by omega)).mpr (by
          rcases c6 with e | e
          · exact absurd ((E 16 16 rfl (by omega)).mpr e) d
          · exact e))]
    rw [if_neg (fun q => c6 (.inl ((E 16 16 rfl (by omega)).mp q))), if_neg (fun q => c6 (.inr ((E 17 17 rfl (by omega)).mp q))), if_neg c6, nI_1]
    by_cases c7 : b p = 21 ∨ b p = 22 ∨ (46 < b p ∧ b p < 52)
    · have o1 : opB (b p) ≠ 0 := by
        have : ∀ o, o < 52 → (o = 21 ∨ o = 22 ∨ (46 < o ∧ o < 52)) → opB o ≠ 0 := by decide
        exact this (b p) (by omega) c7
      obtain ⟨z', q1, q2⟩ := own o1
      refine ⟨z', ?_, by rw [if_pos c7]; exact q2⟩
      rw [q1, cal_s]
      by_cases d1 : nI (b p) = 21
      · rw [if_pos d1]
      rw [if_neg d1]
      by_cases d2 : nI (b p) = 22
      · rw [if_pos d2]
      have n1 : b p ≠ 21 := fun e => d1 ((E 21 21 rfl (by omega)).mpr e)
      have n2 : b p ≠ 22 := fun e => d2 ((E 22 22 rfl (by omega)).mpr e)
      rw [if_neg d2, if_neg (fun q => by have := (nIle (x := 46) 46 rfl (by omega) (by omega)).mp q; omega), if_neg (fun q => by have := (nIge (x := 52) 52 rfl (by omega) (by omega)).mp q; omega)]
    · rw [if_neg (fun q => c7 (.inl ((E 21 21 rfl (by omega)).mp q))), if_neg (fun q => c7 (.inr (.inl ((E 22 22 rfl (by omega)).mp q)))), if_neg c7]
      have g := b178 x1 x2 c6 c7
      by_cases d : b p ≤ 46
      · rw [if_pos ((nIle (x := 46) 46 rfl (by omega) (by omega)).mpr d)]; exact g
      · rw [if_neg (fun q => d ((nIle (x := 46) 46 rfl (by omega) (by omega)).mp q)), if_pos ((nIge (x := 52) 52 rfl (by omega) (by omega)).mpr (by omega))]; exact g
  have b42 : ¬ (1 < b p ∧ b p < 5) → ∃ z', fn_X16_lookInstruction_B42 F sh n (nI (b p)) ku (nI p) (nI loc) z = some (z', ()) ∧ JS ku z0 z' (if 10 < b p ∧ b p < 16 then (if loc ≤ b (p + 1) then some (10, p + 1) else none) else if b p = 16 ∨ b p = 17 then orE (jOwn b M.1.length (M.1.length + M.2.1.length) (p + 1)) (if (M.1.getD (b (p + 1)) dSP).2.2.length ≤ b (p + 2) then some (9, p + 2) else none) else if b p = 21 ∨ b p = 22 ∨ (46 < b p ∧ b p < 52) then jOwn b M.1.length (M.1.length + M.2.1.length) (p + 1) else if b p = 23 then (if M.2.2.2.2.length + M.2.2.1.length ≤ b (p + 1) then some (11, p + 1) else none) else if 51 < b p ∧ b p < 59 then (if M.2.2.2.1.length ≤ b (p + 1) then some (12, p + 1) else none) else none) := fun x1 => by
    unfold fn_X16_lookInstruction_B42
    by_cases c : 10 < b p ∧ b p < 16
    · have o1 : opB (b p) ≠ 0 := by
        have : ∀ o, o < 16 → 10 < o → opB o ≠ 0 := by decide
        exact this (b p) (by omega) (by omega)
      obtain ⟨y1, y2⟩ := by1 o1
      obtain ⟨z', q1, q2⟩ := j.bnd (F := F) h (v := b (p + 1)) (m := loc) (w := 10) (q := p + 1) (iw := 10) (by omega) (by omega) rfl (by omega) (by omega)
      rw [if_neg (fun q => by have := (nIle (x := 10) 10 rfl (by omega) (by omega)).mp q; omega), if_neg (fun q => by have := (nIge (x := 16) 16 rfl (by omega) (by omega)).mp q; omega), nI_1, y1, cal_s, q1, if_pos c]
      exact ⟨z', rfl, q2⟩
    · have g := b79 x1 c
      rw [if_neg c]
      by_cases d : b p ≤ 10
      · rw [if_pos ((nIle (x := 10) 10 rfl (by omega) (by omega)).mpr d)]; exact g
      · rw [if_neg (fun q => d ((nIle (x := 10) 10 rfl (by omega) (by omega)).mp q)), if_pos ((nIge (x := 16) 16 rfl (by omega) (by omega)).mpr (by omega))]; exact g
  by_cases c : 1 < b p ∧ b p < 5
  · have o2 : opB (b p) = 2 := by
      have : ∀ o, o < 5 → 1 < o → opB o = 2 := by decide
      exact this (b p) (by omega) (by omega)
    have y1 := (um.1.2.2.2.2 (p + 1) (by omega)).2
    have y2 := (um.1.2.2.2.2 (p + 2) (by omega)).2
    obtain ⟨z', q1, q2⟩ := j.bnd (F := F) h (v := shB b (p + 1)) (m := many) (w := 13) (q := p + 1) (iw := 13) (by unfold shB; rw [show p + 1 + 1 = p + 2 by omega]; omega) h2 rfl (by omega) (by omega)
    have es : fn_X16_shortAt F sh n z ku (nI (p + 1)) = some (z, nI (shB b (p + 1))) := um.1.short (by omega)
    rw [if_neg (fun q => by have := (nIle (x := 1) 1 rfl (by omega) (by omega)).mp q; omega), if_neg (fun q => by have := (nIge (x := 5) 5 rfl (by omega) (by omega)).mp q; omega), nI_1, es, cal_s, q1, if_pos c]
    exact ⟨z', rfl, q2⟩
  · have g := b42 c
    rw [if_neg c]
    by_cases d : b p ≤ 1
    · rw [if_pos ((nIle (x := 1) 1 rfl (by omega) (by omega)).mpr d)]; exact g
    · rw [if_neg (fun q => d ((nIle (x := 1) 1 rfl (by omega) (by omega)).mp q)), if_pos ((nIge (x := 5) 5 rfl (by omega) (by omega)).mpr (by omega))]; exact g
end
