/-! THE REFERENCE'S UNIT: UnL, UnB -/
section
variable {F n : Nat} {sh : Nat → Nat × Nat} {z z' : St} {ku len : Nat} {b : Nat → Nat} {M : MP}
theorem UM.many (hF : 300 ≤ F) (h : UM sh n z ku b len M) {f l : Nat} (hf : f < M.2.2.2.2.length + M.2.2.1.length) (hl : l ≤ 2) (hl2 : ¬ f < M.2.2.2.2.length → l ≤ 1) : fn_X16_many F sh n z ku (nI f) (nI l) = some (z, nI (lsOf (mdOf b M) f l).length) := by
  have l64 := h.2.2.2.2.2.2.1
  have l32 := h.2.2.2.2.1.1
  have e9 := h.2.1.2.2.2.2.2.2.2.2.1
  have g := h.lst hf hl hl2
  unfold fn_X16_many
  rw [h.1.o, grd_true, e9, h.listOf hF hf hl hl2, cal_s, h.1.byte g.1, cal_s, g.2.1]
  by_cases c : f < M.2.2.2.2.length
  · rw [if_pos ((nI_ltI (by omega) (by omega)).mpr c)]
  · have l1 := hl2 c
    rw [if_neg (fun x => c ((nI_ltI (by omega) (by omega)).mp x)), if_neg (fun x => by have := (nIe (x := 2) 2 rfl (by omega) (by omega)).mp x; omega)]
theorem UM.listed (hF : 300 ≤ F) (h : UM sh n z ku b len M) {f l : Nat} (hf : f < M.2.2.2.2.length + M.2.2.1.length) (hl : l ≤ 2) (hl2 : ¬ f < M.2.2.2.2.length → l ≤ 1) {i : Nat} (hi : i < (lsOf (mdOf b M) f l).length) : fn_X16_listed F sh n z ku (nI f) (nI l) (nI i) = some (z, tL ((lsOf (mdOf b M) f l).getD i [])) := by
  have g := h.lst hf hl hl2
  unfold fn_X16_listed
  rw [h.1.o, grd_true, h.listOf hF hf hl hl2, cal_s, nI_1, lt_t]
  exact (h.1.fieldL (F := F) hF g.2.2.2 (by have := g.1; omega) hi (by have := g.2.2.1; omega)).2
theorem UM.element (hF : 300 ≤ F) (h : UM sh n z ku b len M) {e : Nat} (he : e < M.2.2.2.1.length) : fn_X16_element F sh n z ku (nI e) = some (z, tL ((elsOf (mdOf b M)).getD e [])) := by
  have hc := h
  obtain ⟨hb, ht, hp⟩ := hc
  obtain ⟨u0, u1, _, _, u4, _, _, _, _, _, _, _, u12, _⟩ := b_unit hb.1 hb.2.1
  have l32 := hp.2.2.2.1.1
  have ok : okA sh n (ku + 4) 101 (nI e) = true := by rw [u12]; exact okI_nI (by omega) (by omega)
  have er : z.1 (ku + 4) e = nI (M.2.2.2.1.getD e (0, [])).1 := by
    have := ht.2.2.2.2.2.2.2.1 e he
    rw [Nat.zero_add] at this
    exact this
  have ep : ElP b len (M.2.2.2.1.getD e (0, [])) := hp.2.2.2.1.2 _ (getD_m he)
  have ee : (elsOf (mdOf b M)).getD e [] = (M.2.2.2.1.getD e (0, [])).2 := by
    show (M.2.2.2.1.map (fun e => e.2)).getD e [] = _
    rw [List.getD_eq_getElem?_getD, List.getD_eq_getElem?_getD, List.getElem?_map, List.getElem?_eq_getElem he]; rfl
  unfold fn_X16_element
  rw [u0, grd_true, u4, lnk_s, ok, grd_true, nI_clamp (by omega), er, hb.tyAt hF ep, cal_s, ee]
theorem UM.unL (hF : 300 ≤ F) (h : UM sh n z ku b len M) : UnL F sh n z ku (mdOf b M) := by
  have fa : faOf (mdOf b M) = M.2.2.2.2.length + M.2.2.1.length := rfl
  refine ⟨h.1.o, fun g hg => ⟨⟨?_, ?_, ?_⟩, fun k hk => ?_, fun k hk => ?_⟩, fun a ha => ⟨?_, fun i hi => ?_⟩, fun s hs => h.abilitiesOf hs, fun e he => ?_⟩
  · exact h.many hF (l := 0) hg (by omega) (fun _ => by omega)
  · exact h.many hF (l := 1) hg (by omega) (fun _ => by omega)
  · exact h.flags hg
  · exact h.listed hF (l := 0) hg (by omega) (fun _ => by omega) hk
  · exact h.listed hF (l := 1) hg (by omega) (fun _ => by omega) hk
  · exact h.fieldsOf ha
  · exact h.field hF ha hi
  · have el : (elsOf (mdOf b M)).length = M.2.2.2.1.length := by show (M.2.2.2.1.map (fun e => e.2)).length = _; rw [List.length_map]
    exact h.element hF (by rw [← el]; exact he)
theorem UM.unB (hF : 300 ≤ F) (h : UM sh n z ku b len M) {f : Nat} (hf : f < M.2.2.2.2.length) : UnB F sh n z ku (mdOf b M) f := by
  refine ⟨?_, fun k hk => ?_⟩
  · exact h.many hF (f := f) (l := 2) (by omega) (by omega) (fun c => absurd hf c)
  · exact h.listed hF (f := f) (l := 2) (by omega) (by omega) (fun c => absurd hf c) hk
end
