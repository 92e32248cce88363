/-! THE REFERENCE'S UNIT: RUn -/
section
variable {F n : Nat} {sh : Nat → Nat × Nat} {z z' : St} {ku len : Nat} {b : Nat → Nat} {M : MP}
theorem UB.number (h : UB sh n z ku b len) (h6 : 6 ≤ len) : fn_X16_number F sh n z ku = some (z, nI (shB b 4)) := by
  unfold fn_X16_number
  have e : fn_X16_shortAt F sh n z ku 4 = some (z, nI (256 * b 4 + b (4 + 1))) := h.short (F := F) (q := 4) (by omega)
  rw [h.o, grd_true, e, cal_s]
  rfl
theorem UM.identity (h : UM sh n z ku b len M) (h6 : 6 ≤ len) {k : Nat} (hk : k < M.1.length + M.2.1.length) : fn_X16_identity F sh n z ku (nI k) = some (z, nI ((mdOf b M).2.2.2.1 k)) := by
  have l32 := h.2.2.1.1
  have l33 := h.2.2.2.1.1
  have e5 := h.2.1.1
  unfold fn_X16_identity
  rw [h.1.o, grd_true, e5]
  show _ = some (z, nI (if k < M.1.length then 256 * shB b 4 + k else 256 * shB b (M.2.1.getD (k - M.1.length) 0) + b (M.2.1.getD (k - M.1.length) 0 + 2)))
  by_cases c : k < M.1.length
  · obtain ⟨s1, s2, s3, s4, s5⟩ := h.sAt c
    rw [s1, lnk_s, s2, grd_true, lt_t, if_neg (fun x => by have := (nI_leI (by omega) (by omega)).mp x; omega), h.1.number h6, cal_s, show (256 : Int32) = nI 256 from rfl, pk_mul, nI_add, if_pos c]
  · obtain ⟨s1, s2, s3, s4, s5⟩ := h.fAt (k := k - M.1.length) (by omega)
    have ek : M.1.length + (k - M.1.length) = k := by omega
    have p3 := s5.1
    rw [ek] at s2 s3 s4
    rw [s1, lnk_s, s2, grd_true, lt_t, if_pos ((nI_leI (by omega) (by omega)).mpr (by omega)), s3, s4, h.1.short (by omega), cal_s, show (2 : Int32) = nI 2 from rfl, nI_add, h.1.byte (by omega), cal_s, show (256 : Int32) = nI 256 from rfl, pk_mul, nI_add, if_neg c]
    rfl
theorem UM.foreign (h : UM sh n z ku b len M) {f : Nat} (h1 : M.2.2.2.2.length ≤ f) (h2 : f < M.2.2.2.2.length + M.2.2.1.length) : fn_X16_foreignNumber F sh n z ku (nI f) = some (z, nI (whoOf (mdOf b M) f % 256)) ∧ fn_X16_foreignModule F sh n z ku (nI f) = some (z, nI (whoOf (mdOf b M) f / 256)) := by
  have l64 := h.2.2.2.2.2.2.1
  have l32 := h.2.2.2.2.1.1
  have e9 := h.2.1.2.2.2.2.2.2.2.2.1
  obtain ⟨s1, s2, s3, s4, s5⟩ := h.cAt (k := f - M.2.2.2.2.length) (by omega)
  have p3 := s5.1
  have b8 := (h.1.2.2.2.2 ((M.2.2.1.getD (f - M.2.2.2.2.length) dCP).1 + 2) (by omega)).2
  have ew : whoOf (mdOf b M) f = 256 * shB b (M.2.2.1.getD (f - M.2.2.2.2.length) dCP).1 + b ((M.2.2.1.getD (f - M.2.2.2.2.length) dCP).1 + 2) := rfl
  have e1 : whoOf (mdOf b M) f % 256 = b ((M.2.2.1.getD (f - M.2.2.2.2.length) dCP).1 + 2) := by rw [ew]; omega
  have e2 : whoOf (mdOf b M) f / 256 = shB b (M.2.2.1.getD (f - M.2.2.2.2.length) dCP).1 := by rw [ew]; omega
  rw [e1, e2]
  unfold fn_X16_foreignNumber fn_X16_foreignModule
  rw [h.1.o, grd_true, grd_true, s1, lnk_s, lnk_s, e9, pk_sub h1, s2, grd_true, grd_true, s3, s4, show (2 : Int32) = nI 2 from rfl, nI_add, h.1.byte (by omega), cal_s, h.1.short (by omega), cal_s]
  exact ⟨rfl, rfl⟩
theorem UM.run (hF : 3000 ≤ F) (h : UM sh n z ku b len M) (h6 : 6 ≤ len) (hA : (allC M.2.2.2.2).length ≤ len) : RUn F sh n z ku (mdOf b M) := by
  have ul := h.unL (F := F) (by omega)
  refine ⟨h.1.o, h.2.1.2.2.2.2.2.2.2.2.1, fun f hf => h.unI hF hA hf, fun a ha => ⟨(ul.2.1 a ha).1.1, (ul.2.1 a ha).1.2.1⟩, fun a ha => ⟨(ul.2.2.1 a ha).1, h.identity h6 ?_⟩, fun a h1 h2 => h.foreign h1 h2⟩
  have : a < M.1.length := ha
  omega
end
