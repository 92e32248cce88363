/-! THE REFERENCE'S UNIT: judging structures, foreign functions, elements -/
def jSs (all : Nat) : List SP → Flt
  | [] => none
  | s :: ss => orE (jTs all (s.1 + 2) s.2.2) (jSs all ss)
def jCs (all : Nat) : List CP → Flt
  | [] => none
  | c :: cs => orE (orE (jTs all (c.1 + 5) c.2.1) (jTs all (endL (c.1 + 5) c.2.1 + 1) c.2.2)) (jCs all cs)
def jEs (all : Nat) : List (Nat × Ty) → Flt
  | [] => none
  | e :: es => orE (jT all e.1 e.2) (jEs all es)
theorem drop_d {α : Type} {l : List α} {d : α} {p : Nat} (h : p < l.length) : l.drop p = l.getD p d :: l.drop (p + 1) := by
  rw [List.drop_eq_getElem_cons h, List.getD_eq_getElem?_getD, List.getElem?_eq_getElem h]; rfl
theorem orE_s (e : Nat × Nat) (s : Flt) : orE (some e) s = some e := rfl
section
variable {F n : Nat} {sh : Nat → Nat × Nat} {z0 z z' : St} {ku len : Nat} {b : Nat → Nat} {M : MP} {r : Flt}
theorem JS.lkF (hF : 300 ≤ F) (h : UM sh n z0 ku b len M) {k : Nat} (hk : k < M.1.length) {K : St → Int32 → Option (St × Unit)} : ∀ (us : List Ty) (m g q : Nat) (z : St) (r : Flt), m + us.length = (M.1.getD k dSP).2.2.length → us.length < g → AtL b len false q us → JS ku z0 z r → ∃ z', fn_X16_lookAll_L28 F sh n ku (nI k) K g z (nI q) (nI m) = K z' (nI k + 1) ∧ JS ku z0 z' (orE r (jTs (M.1.length + M.2.1.length) q us)) := by
  have f16 := (h.sAt hk).2.2.2.2.2.2.2.2.2.1
  intro us
  induction us with
  | nil =>
    intro m g q z r em hg ha j
    obtain ⟨g, rfl⟩ : ∃ q, g = q + 1 := ⟨g - 1, by omega⟩
    have em' : m = (M.1.getD k dSP).2.2.length := by simpa using em
    unfold fn_X16_lookAll_L28
    rw [(JS.um h j).fieldsOf hk, cal_s, if_pos ((nI_leI (by omega) (by omega)).mpr (by omega))]
    refine ⟨z, rfl, ?_⟩
    show JS ku z0 z (orE r none)
    rw [orE_n]; exact j
  | cons t us ih =>
    intro m g q z r em hg ha j
    obtain ⟨g, rfl⟩ : ∃ q, g = q + 1 := ⟨g - 1, by omega⟩
    have em' : m + (us.length + 1) = (M.1.getD k dSP).2.2.length := em
    have hg' : us.length + 1 < g + 1 := hg
    obtain ⟨z2, s1, s2⟩ := j.lookType (F := F) hF h ha.1
    obtain ⟨z3, t1, t2⟩ := ih (m + 1) g (q + t.length) z2 _ (by omega) (by omega) ha.2 s2
    refine ⟨z3, ?_, ?_⟩
    · conv => lhs; unfold fn_X16_lookAll_L28
      rw [(JS.um h j).fieldsOf hk, cal_s, if_neg (fun x => by have := (nI_leI (by omega) (by omega)).mp x; omega), s1, cal_s, nI_1, t1]
    · rw [orE_a] at t2; exact t2
theorem JS.lkS (hF : 300 ≤ F) (h : UM sh n z0 ku b len M) : ∀ m k g z r, k + m = M.1.length → m < g → JS ku z0 z r → ∃ z', fn_X16_lookAll_L2 F sh n ku g z (nI k) = fn_X16_lookAll_B55 F sh n ku z' ∧ JS ku z0 z' (orE r (jSs (M.1.length + M.2.1.length) (M.1.drop k))) := by
  have l32 := h.2.2.1.1
  intro m
  induction m with
  | zero =>
    intro k g z r ek hg j
    obtain ⟨g, rfl⟩ : ∃ q, g = q + 1 := ⟨g - 1, by omega⟩
    have um := JS.um h j
    unfold fn_X16_lookAll_L2
    rw [um.1.o, grd_true, um.2.1.1, if_pos ((nI_leI (by omega) (by omega)).mpr (by omega)), List.drop_eq_nil_of_le (by omega)]
    refine ⟨z, rfl, ?_⟩
    show JS ku z0 z (orE r none)
    rw [orE_n]; exact j
  | succ m ih =>
    intro k g z r ek hg j
    obtain ⟨g, rfl⟩ : ∃ q, g = q + 1 := ⟨g - 1, by omega⟩
    have um := JS.um h j
    have hk : k < M.1.length := by omega
    obtain ⟨s1, s2, s3, s4, s5⟩ := um.sAt hk
    conv => enter [1, z', 1, 1]; unfold fn_X16_lookAll_L2
    rw [um.1.o, grd_true, um.2.1.1, if_neg (fun x => by have := (nI_leI (by omega) (by omega)).mp x; omega), j.good h, cal_s]
    cases r with
    | some e => rw [if_pos (show bI (some e).isNone = 0 from rfl)]; exact ⟨z, rfl, j⟩
    | none =>
      obtain ⟨z2, t1, t2⟩ := JS.lkF (F := F) hF h hk (K := fun z9 q1 => fn_X16_lookAll_L2 F sh n ku g z9 q1) (M.1.getD k dSP).2.2 0 F ((M.1.getD k dSP).1 + 2) z none (by omega) (by have := s5.2.2.2.2.2.1; omega) s5.2.2.2.2.2.2 j
      have t1' : fn_X16_lookAll_L28 F sh n ku (nI k) (fun z9 q1 => fn_X16_lookAll_L2 F sh n ku g z9 q1) F z (nI ((M.1.getD k dSP).1 + 2)) 0 = fn_X16_lookAll_L2 F sh n ku g z2 (nI k + 1) := t1
      obtain ⟨z3, y1, y2⟩ := ih (k + 1) g z2 _ (by omega) (by omega) t2
      rw [if_neg (show ¬ bI (none : Flt).isNone = 0 from one0), s1, lnk_s, s2, grd_true, s3, s4, show (2 : Int32) = nI 2 from rfl, nI_add, lt_t, t1', nI_1, y1]
      refine ⟨z3, rfl, ?_⟩
      rw [drop_d (d := dSP) hk]
      exact y2
theorem JS.lkC (hF : 300 ≤ F) (h : UM sh n z0 ku b len M) : ∀ m k g z r, k + m = M.2.2.1.length → m < g → JS ku z0 z r → ∃ z', fn_X16_lookAll_L57 F sh n ku g z (nI k) = fn_X16_lookAll_B95 F sh n ku z' ∧ JS ku z0 z' (orE r (jCs (M.1.length + M.2.1.length) (M.2.2.1.drop k))) := by
  have l32 := h.2.2.2.2.1.1
  intro m
  induction m with
  | zero =>
    intro k g z r ek hg j
    obtain ⟨g, rfl⟩ : ∃ q, g = q + 1 := ⟨g - 1, by omega⟩
    have um := JS.um h j
    unfold fn_X16_lookAll_L57
    rw [um.2.1.2.2.2.2.1, if_pos ((nI_leI (by omega) (by omega)).mpr (by omega)), List.drop_eq_nil_of_le (by omega)]
    refine ⟨z, rfl, ?_⟩
    show JS ku z0 z (orE r none)
    rw [orE_n]; exact j
  | succ m ih =>
    intro k g z r ek hg j
    obtain ⟨g, rfl⟩ : ∃ q, g = q + 1 := ⟨g - 1, by omega⟩
    have um := JS.um h j
    have hk : k < M.2.2.1.length := by omega
    obtain ⟨s1, s2, s3, s4, c1, c2, ⟨c3, c4⟩, c5, c6⟩ := um.cAt hk
    conv => enter [1, z', 1, 1]; unfold fn_X16_lookAll_L57
    rw [um.2.1.2.2.2.2.1, if_neg (fun x => by have := (nI_leI (by omega) (by omega)).mp x; omega), j.good h, cal_s]
    cases r with
    | some e => rw [if_pos (show bI (some e).isNone = 0 from rfl)]; exact ⟨z, rfl, j⟩
    | none =>
      obtain ⟨z2, t1, t2⟩ := JS.lookLst (F := F) hF h c3 j
      obtain ⟨z3, y1, y2⟩ := JS.lookLst (F := F) hF h c5 t2
      obtain ⟨z4, w1, w2⟩ := ih (k + 1) g z3 _ (by omega) (by omega) y2
      rw [if_neg (show ¬ bI (none : Flt).isNone = 0 from one0), s1, lnk_s, s2, grd_true, s3, s4, show (4 : Int32) = nI 4 from rfl, nI_add, t1, cal_s, y1, cal_s, nI_1, w1]
      refine ⟨z4, rfl, ?_⟩
      rw [drop_d (d := dCP) hk]
      exact w2
theorem JS.lkE (hF : 300 ≤ F) (h : UM sh n z0 ku b len M) : ∀ m k g z r, k + m = M.2.2.2.1.length → m < g → JS ku z0 z r → ∃ z', fn_X16_lookAll_L97 F sh n ku g z (nI k) = fn_X16_lookAll_B129 F sh n ku z' ∧ JS ku z0 z' (orE r (jEs (M.1.length + M.2.1.length) (M.2.2.2.1.drop k))) := by
  have l32 := h.2.2.2.2.2.1.1
  intro m
  induction m with
  | zero =>
    intro k g z r ek hg j
    obtain ⟨g, rfl⟩ : ∃ q, g = q + 1 := ⟨g - 1, by omega⟩
    have um := JS.um h j
    unfold fn_X16_lookAll_L97
    rw [um.2.1.2.2.2.2.2.2.1, if_pos ((nI_leI (by omega) (by omega)).mpr (by omega)), List.drop_eq_nil_of_le (by omega)]
    refine ⟨z, rfl, ?_⟩
    show JS ku z0 z (orE r none)
    rw [orE_n]; exact j
  | succ m ih =>
    intro k g z r ek hg j
    obtain ⟨g, rfl⟩ : ∃ q, g = q + 1 := ⟨g - 1, by omega⟩
    have um := JS.um h j
    have hk : k < M.2.2.2.1.length := by omega
    obtain ⟨u0, u1, _, _, u4, _, _, _, _, _, _, _, u12, _⟩ := b_unit um.1.1 um.1.2.1
    have ok : okA sh n (ku + 4) 101 (nI k) = true := by rw [u12]; exact okI_nI (by omega) (by omega)
    have er : z.1 (ku + 4) k = nI (M.2.2.2.1.getD k (0, [])).1 := by
      have := um.2.1.2.2.2.2.2.2.2.1 k hk
      rw [Nat.zero_add] at this
      exact this
    have ep : ElP b len (M.2.2.2.1.getD k (0, [])) := um.2.2.2.2.2.1.2 _ (getD_m hk)
    conv => enter [1, z', 1, 1]; unfold fn_X16_lookAll_L97
    rw [um.2.1.2.2.2.2.2.2.1, if_neg (fun x => by have := (nI_leI (by omega) (by omega)).mp x; omega), j.good h, cal_s]
    cases r with
    | some e => rw [if_pos (show bI (some e).isNone = 0 from rfl)]; exact ⟨z, rfl, j⟩
    | none =>
      obtain ⟨z2, t1, t2⟩ := j.lookType (F := F) hF h ep
      obtain ⟨z4, w1, w2⟩ := ih (k + 1) g z2 _ (by omega) (by omega) t2
      rw [if_neg (show ¬ bI (none : Flt).isNone = 0 from one0), u4, lnk_s, ok, grd_true, nI_clamp (by omega), er, t1, cal_s, nI_1, w1]
      refine ⟨z4, rfl, ?_⟩
      rw [drop_d (d := ((0, []) : Nat × Ty)) hk]
      exact w2
end
