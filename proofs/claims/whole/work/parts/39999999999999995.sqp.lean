/-! THE REFERENCE'S UNIT: structures and lists, as answers -/
section
variable {F n : Nat} {sh : Nat → Nat × Nat} {z z' : St} {ku len : Nat} {b : Nat → Nat} {M : MP}
theorem UM.sAt (h : UM sh n z ku b len M) {k : Nat} (hk : k < M.1.length) : z.2.2 ku 11 = some (ku + 2) ∧ okA sh n (ku + 2) 101 (nI k) = true ∧ (nI k).toNatClampNeg = k ∧ z.1 (ku + 2) k = nI (M.1.getD k dSP).1 ∧ StP b len (M.1.getD k dSP) := by
  obtain ⟨hb, ht, hp⟩ := h
  obtain ⟨u0, u1, u2, _, _, _, _, _, _, _, u10, _⟩ := b_unit hb.1 hb.2.1
  have l32 := hp.1.1
  refine ⟨u2, by rw [u10]; exact okI_nI (by omega) (by omega), nI_clamp (by omega), ?_, hp.1.2 _ (getD_m hk)⟩
  have := ht.2.1 k hk
  rw [Nat.zero_add] at this
  exact this
theorem UM.fAt (h : UM sh n z ku b len M) {k : Nat} (hk : k < M.2.1.length) : z.2.2 ku 11 = some (ku + 2) ∧ okA sh n (ku + 2) 101 (nI (M.1.length + k)) = true ∧ (nI (M.1.length + k)).toNatClampNeg = M.1.length + k ∧ z.1 (ku + 2) (M.1.length + k) = nI (M.2.1.getD k 0) ∧ FoP b len (M.2.1.getD k 0) := by
  obtain ⟨hb, ht, hp⟩ := h
  obtain ⟨u0, u1, u2, _, _, _, _, _, _, _, u10, _⟩ := b_unit hb.1 hb.2.1
  have l32 := hp.1.1
  have l33 := hp.2.1.1
  exact ⟨u2, by rw [u10]; exact okI_nI (by omega) (by omega), nI_clamp (by omega), ht.2.2.2.1 k hk, hp.2.1.2 _ (getD_m hk)⟩
theorem UM.fieldsOf (h : UM sh n z ku b len M) {a : Nat} (ha : a < M.1.length) : fn_X16_fieldsOf F sh n z ku (nI a) = some (z, nI (M.1.getD a dSP).2.2.length) := by
  obtain ⟨s1, s2, s3, s4, s5⟩ := h.sAt ha
  unfold fn_X16_fieldsOf
  rw [h.1.o, grd_true, s1, lnk_s, s2, grd_true, s3, s4, nI_1, h.1.byte s5.1, cal_s, s5.2.2.2.1]
theorem UM.field (hF : 300 ≤ F) (h : UM sh n z ku b len M) {a i : Nat} (ha : a < M.1.length) (hi : i < (M.1.getD a dSP).2.2.length) : fn_X16_field F sh n z ku (nI a) (nI i) = some (z, tL ((M.1.getD a dSP).2.2.getD i [])) := by
  obtain ⟨s1, s2, s3, s4, s5⟩ := h.sAt ha
  unfold fn_X16_field
  rw [h.1.o, grd_true, s1, lnk_s, s2, grd_true, s3, s4, show (2 : Int32) = nI 2 from rfl, nI_add, lt_t]
  exact (h.1.fieldL (F := F) hF s5.2.2.2.2.2.2 (by have := s5.1; omega) hi (by have := s5.2.2.2.2.2.1; omega)).1
theorem UM.abilitiesOf (h : UM sh n z ku b len M) {k : Nat} (hk : k < M.1.length + M.2.1.length) : fn_X16_abilitiesOf F sh n z ku (nI k) = some (z, nI ((mdOf b M).2.1 k)) := by
  have l32 := h.2.2.1.1
  have l33 := h.2.2.2.1.1
  have e5 := h.2.1.1
  unfold fn_X16_abilitiesOf
  rw [h.1.o, grd_true, e5]
  show _ = some (z, nI (if k < M.1.length then b (M.1.getD k dSP).1 else b (M.2.1.getD (k - M.1.length) 0 + 3)))
  by_cases c : k < M.1.length
  · obtain ⟨s1, s2, s3, s4, s5⟩ := h.sAt c
    have p1 := s5.1
    rw [s1, lnk_s, s2, grd_true, if_neg (fun x => by have := (nI_leI (by omega) (by omega)).mp x; omega), s3, s4, Int32.add_zero, h.1.byte (by omega), cal_s, if_pos c]
  · obtain ⟨s1, s2, s3, s4, s5⟩ := h.fAt (k := k - M.1.length) (by omega)
    have ek : M.1.length + (k - M.1.length) = k := by omega
    rw [ek] at s2 s3 s4
    rw [s1, lnk_s, s2, grd_true, if_pos ((nI_leI (by omega) (by omega)).mpr (by omega)), s3, s4, show (3 : Int32) = nI 3 from rfl, nI_add, h.1.byte s5.1, cal_s, if_neg c]
theorem UM.gAt (h : UM sh n z ku b len M) {f : Nat} (hf : f < M.2.2.2.2.length) : z.2.2 ku 14 = some (ku + 5) ∧ okA sh n (ku + 5) 101 (nI f) = true ∧ (nI f).toNatClampNeg = f ∧ z.1 (ku + 5) f = nI (M.2.2.2.2.getD f dGP).1 ∧ GpP b len (M.2.2.2.2.getD f dGP) := by
  obtain ⟨hb, ht, hp⟩ := h
  obtain ⟨u0, u1, _, _, _, u5, _, _, _, _, _, _, _, u13, _⟩ := b_unit hb.1 hb.2.1
  have l64 := hp.2.2.2.2.1
  exact ⟨u5, by rw [u13]; exact okI_nI (by omega) (by omega), nI_clamp (by omega), (ht.2.2.2.2.2.2.2.2.2.2 f hf).1, hp.2.2.2.2.2 _ (getD_m hf)⟩
theorem UM.cAt (h : UM sh n z ku b len M) {k : Nat} (hk : k < M.2.2.1.length) : z.2.2 ku 12 = some (ku + 3) ∧ okA sh n (ku + 3) 101 (nI k) = true ∧ (nI k).toNatClampNeg = k ∧ z.1 (ku + 3) k = nI (M.2.2.1.getD k dCP).1 ∧ CaP b len (M.2.2.1.getD k dCP) := by
  obtain ⟨hb, ht, hp⟩ := h
  obtain ⟨u0, u1, _, u3, _, _, _, _, _, _, _, u11, _⟩ := b_unit hb.1 hb.2.1
  have l32 := hp.2.2.1.1
  refine ⟨u3, by rw [u11]; exact okI_nI (by omega) (by omega), nI_clamp (by omega), ?_, hp.2.2.1.2 _ (getD_m hk)⟩
  have := ht.2.2.2.2.2.1 k hk
  rw [Nat.zero_add] at this
  exact this
theorem UM.flags (h : UM sh n z ku b len M) {f : Nat} (hf : f < M.2.2.2.2.length + M.2.2.1.length) : fn_X16_flags F sh n z ku (nI f) = some (z, nI (fnOf (mdOf b M) f).1) := by
  have l64 := h.2.2.2.2.2.2.1
  have l32 := h.2.2.2.2.1.1
  have e9 := h.2.1.2.2.2.2.2.2.2.2.1
  unfold fn_X16_flags
  rw [h.1.o, grd_true, e9]
  show _ = some (z, nI (if f < M.2.2.2.2.length then _ else _ : Fn).1)
  by_cases c : f < M.2.2.2.2.length
  · obtain ⟨s1, s2, s3, s4, s5⟩ := h.gAt c
    rw [if_neg (fun x => by have := (nI_leI (by omega) (by omega)).mp x; omega), s1, lnk_s, s2, grd_true, s3, s4, h.1.byte s5.1, cal_s, if_pos c]
  · obtain ⟨s1, s2, s3, s4, s5⟩ := h.cAt (k := f - M.2.2.2.2.length) (by omega)
    rw [if_pos ((nI_leI (by omega) (by omega)).mpr (by omega)), s1, lnk_s, pk_sub (by omega), s2, grd_true, s3, s4, show (3 : Int32) = nI 3 from rfl, nI_add, h.1.byte s5.1, cal_s, if_neg c]
/-- where a list is -/
def lsAt (M : MP) (f l : Nat) : Nat := if f < M.2.2.2.2.length then (if l = 0 then (M.2.2.2.2.getD f dGP).1 + 1 else if l = 1 then endL ((M.2.2.2.2.getD f dGP).1 + 2) (M.2.2.2.2.getD f dGP).2.2.1 else endL (endL ((M.2.2.2.2.getD f dGP).1 + 2) (M.2.2.2.2.getD f dGP).2.2.1 + 1) (M.2.2.2.2.getD f dGP).2.2.2.1) else if l = 0 then (M.2.2.1.getD (f - M.2.2.2.2.length) dCP).1 + 4 else endL ((M.2.2.1.getD (f - M.2.2.2.2.length) dCP).1 + 5) (M.2.2.1.getD (f - M.2.2.2.2.length) dCP).2.1
def lsOf (U : Md) (f l : Nat) : List Ty := if l = 0 then tksOf U f else if l = 1 then gvsOf U f else locL U f
theorem UM.lst (h : UM sh n z ku b len M) {f l : Nat} (hf : f < M.2.2.2.2.length + M.2.2.1.length) (hl : l ≤ 2) (hl2 : ¬ f < M.2.2.2.2.length → l ≤ 1) : Lst b len (lsAt M f l) (lsOf (mdOf b M) f l) := by
  have cs : l = 0 ∨ l = 1 ∨ l = 2 := by omega
  unfold lsAt lsOf
  by_cases c : f < M.2.2.2.2.length
  · obtain ⟨_, _, _, _, g1, g2, g3, ⟨g4, g5⟩, ⟨g6, g7⟩, g8, _⟩ := h.gAt c
    have e : fnOf (mdOf b M) f = (b (M.2.2.2.2.getD f dGP).1, (M.2.2.2.2.getD f dGP).2.2.1, (M.2.2.2.2.getD f dGP).2.2.2.1, (M.2.2.2.2.getD f dGP).2.2.2.2.1) := by show (if f < M.2.2.2.2.length then _ else _ : Fn) = _; rw [if_pos c]
    unfold tksOf gvsOf locL
    rw [e, if_pos c]
    rcases cs with q | q | q <;> subst q
    · exact g4
    · exact g6
    · exact g8
  · obtain ⟨_, _, _, _, g1, g2, ⟨g4, g5⟩, g6, g7⟩ := h.cAt (k := f - M.2.2.2.2.length) (by omega)
    have e : fnOf (mdOf b M) f = (b ((M.2.2.1.getD (f - M.2.2.2.2.length) dCP).1 + 3), (M.2.2.1.getD (f - M.2.2.2.2.length) dCP).2.1, (M.2.2.1.getD (f - M.2.2.2.2.length) dCP).2.2, []) := by show (if f < M.2.2.2.2.length then _ else _ : Fn) = _; rw [if_neg c]
    unfold tksOf gvsOf locL
    rw [e, if_neg c]
    rcases cs with q | q | q <;> subst q
    · exact g4
    · exact g6
    · exact absurd (hl2 c) (by omega)
theorem UM.listOf (hF : 300 ≤ F) (h : UM sh n z ku b len M) {f l : Nat} (hf : f < M.2.2.2.2.length + M.2.2.1.length) (hl : l ≤ 2) (hl2 : ¬ f < M.2.2.2.2.length → l ≤ 1) : fn_X16_listOf F sh n z ku (nI f) (nI l) = some (z, nI (lsAt M f l)) := by
  have l64 := h.2.2.2.2.2.2.1
  have l32 := h.2.2.2.2.1.1
  have e9 := h.2.1.2.2.2.2.2.2.2.2.1
  have cs : l = 0 ∨ l = 1 ∨ l = 2 := by omega
  unfold fn_X16_listOf
  rw [h.1.o, grd_true, e9]
  unfold lsAt
  by_cases c : f < M.2.2.2.2.length
  · obtain ⟨s1, s2, s3, s4, g1, g2, g3, ⟨g4, g5⟩, ⟨g6, g7⟩, g8, _⟩ := h.gAt c
    have la : fn_X16_listAt F sh n z ku (nI f) (nI l) = fn_X16_listAt_L12 F sh n (nI l) ku F z (nI ((M.2.2.2.2.getD f dGP).1 + 1)) 0 := by
      unfold fn_X16_listAt
      rw [h.1.o, grd_true, s1, lnk_s, s2, grd_true, s3, s4, nI_1, lt_t]
    have step : ∀ g p k, fn_X16_listAt_L12 F sh n (nI k) ku (g + 1) z p (nI k) = some (z, p) := fun g p k => by
      unfold fn_X16_listAt_L12
      rw [if_pos (Int32.le_refl _)]
    have go : ∀ g p ts k m, Lst b len p ts → k < m → m ≤ 2 → fn_X16_listAt_L12 F sh n (nI m) ku (g + 1) z (nI p) (nI k) = fn_X16_listAt_L12 F sh n (nI m) ku g z (nI (endL (p + 1) ts)) (nI (k + 1)) := fun g p ts k m hl hk hm => by
      conv => lhs; unfold fn_X16_listAt_L12
      rw [if_neg (fun x => by have := (nI_leI (by omega) (by omega)).mp x; omega), h.1.listEnd hF hl, cal_s, nI_1]
    obtain ⟨G, eG⟩ : ∃ G, F = G + 1 + 1 + 1 := ⟨F - 3, by omega⟩
    rw [if_neg (fun x => by have := (nI_leI (by omega) (by omega)).mp x; omega), la, if_pos c]
    have all : ∀ H, H = G + 1 + 1 + 1 → fn_X16_listAt_L12 F sh n (nI l) ku H z (nI ((M.2.2.2.2.getD f dGP).1 + 1)) 0 = some (z, nI (if l = 0 then (M.2.2.2.2.getD f dGP).1 + 1 else if l = 1 then endL ((M.2.2.2.2.getD f dGP).1 + 2) (M.2.2.2.2.getD f dGP).2.2.1 else endL (endL ((M.2.2.2.2.getD f dGP).1 + 2) (M.2.2.2.2.getD f dGP).2.2.1 + 1) (M.2.2.2.2.getD f dGP).2.2.2.1)) := fun H eH => by
      subst eH
      rcases cs with q | q | q <;> subst q
      · exact step _ _ 0
      · have e1 := go (G + 1 + 1) ((M.2.2.2.2.getD f dGP).1 + 1) _ 0 1 g4 (by omega) (by omega)
        have e1' : fn_X16_listAt_L12 F sh n (nI 1) ku (G + 1 + 1 + 1) z (nI ((M.2.2.2.2.getD f dGP).1 + 1)) 0 = _ := e1
        rw [e1']
        exact step _ _ 1
      · have e1 := go (G + 1 + 1) ((M.2.2.2.2.getD f dGP).1 + 1) _ 0 2 g4 (by omega) (by omega)
        have e1' : fn_X16_listAt_L12 F sh n (nI 2) ku (G + 1 + 1 + 1) z (nI ((M.2.2.2.2.getD f dGP).1 + 1)) 0 = _ := e1
        rw [e1']
        have e2 := go (G + 1) (endL ((M.2.2.2.2.getD f dGP).1 + 1 + 1) (M.2.2.2.2.getD f dGP).2.2.1) _ 1 2 g6 (by omega) (by omega)
        rw [e2]
        exact step _ _ 2
    rw [all F eG, cal_s]
  · obtain ⟨s1, s2, s3, s4, g1, g2, ⟨g4, g5⟩, g6, g7⟩ := h.cAt (k := f - M.2.2.2.2.length) (by omega)
    have l1 := hl2 c
    rw [if_pos ((nI_leI (by omega) (by omega)).mpr (by omega)), s1, lnk_s, pk_sub (by omega), s2, grd_true, s3, s4, show (4 : Int32) = nI 4 from rfl, nI_add, lt_t, if_neg c]
    rcases cs with q | q | q <;> subst q
    · rw [if_pos (show nI 0 = 0 from rfl), if_pos rfl]
    · rw [if_neg (show ¬ nI 1 = 0 from one0), h.1.listEnd hF g4, cal_s, if_neg (by decide)]
    · omega
end
