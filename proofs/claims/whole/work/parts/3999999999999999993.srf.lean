/-! THE REFERENCE'S UNIT: a module is read, as a whole -/
/-- what reading a module's bytes comes to -/
def rdMd (b : Nat → Nat) (len : Nat) : Flt := match pAll b len with | .error e => some e | .ok q => orE (jM b q.1) (jRd q.1 q.1.1.length 0)
section
variable {F n : Nat} {sh : Nat → Nat × Nat} {z z' : St} {ku len x0 st : Nat} {b : Nat → Nat}
theorem rd_e {r : Nat × Nat} (hU : UB sh n z ku b len) (h : FtR z ku (some r)) {g : Nat} (hg : 0 < g) (x : Int32) : fn_X16_read_L71 F sh n ku g z x = some (z, z.1 ku 3) := by
  obtain ⟨g, rfl⟩ : ∃ q, g = q + 1 := ⟨g - 1, by omega⟩
  obtain ⟨y2, y3, y4, y5⟩ := h
  have gd : fn_X16_isGood F sh n z ku = some (z, 0) := by
    have := hU.good (F := F) y2 y4
    rw [beq_eq_false_iff_ne.mpr (show r.1 ≠ 0 by omega)] at this
    exact this
  unfold fn_X16_read_L71
  rw [gd, cal_s, if_pos rfl]
  by_cases c : z.1 ku 5 ≤ x
  · rw [if_pos c]
  · rw [if_neg c]
theorem US.readT (hF : 1100 ≤ F) (h : US sh n z ku b len 0) (e10 : z.1 ku 10 = nI 0) : ∃ z', cal (fn_X16_overAll F sh n z ku) (fun z_16 _ => cal (fn_X16_isGood F sh n z_16 ku) (fun z_18 r_19 => if (r_19 : Int32) = 0 then fn_X16_read_B68 F sh n ku z_18 else cal (fn_X16_lookAll F sh n z_18 ku) (fun z_40 _ => fn_X16_read_B68 F sh n ku z_40))) = some (z', z'.1 ku 3) ∧ FtR z' ku (rdMd b len) ∧ UB sh n z' ku b len ∧ ∀ q, pAll b len = .ok q → UM sh n z' ku b len q.1 := by
  obtain ⟨z1, s1, s2, s3, s4⟩ := h.overAll (F := F) hF e10
  unfold rdMd fn_X16_read_B68
  rw [s1, cal_s]
  cases e : pAll b len with
  | error x =>
    rw [e] at s2
    have s2' : UF sh n z1 ku b len x.1 x.2 := s2
    have ft : FtR z1 ku (some x) := ⟨s2'.2.1, s2'.2.2.1, s2'.2.2.2.1, s2'.2.2.2.2⟩
    rw [s2'.good, cal_s, if_pos rfl, rd_e s2'.1 ft (by omega)]
    exact ⟨z1, rfl, ft, s2'.1, fun q y => by cases y⟩
  | ok x =>
    have tm := s3 x e
    rw [e] at s2
    have s2' : US sh n z1 ku b len x.2 := s2
    have um : UM sh n z1 ku b len x.1 := ⟨s2'.1, tm, (pAll_p e).1⟩
    have hA := pAll_a e
    have l32 := um.2.2.1.1
    obtain ⟨z2, t1, t2⟩ := JS.lookAll (F := F) hF um hA s2'.2.2.2
    have um2 := JS.um um t2
    rw [s2'.good, cal_s, if_neg (by decide), t1, cal_s]
    show ∃ z', _ ∧ FtR z' ku (orE (jM b x.1) (jRd x.1 x.1.1.length 0)) ∧ _
    cases ej : jM b x.1 with
    | some y =>
      rw [ej] at t2
      have ft : FtR z2 ku (some y) := t2.2
      rw [rd_e um2.1 ft (by omega)]
      exact ⟨z2, rfl, ft, um2.1, fun q y => by cases y; exact um2⟩
    | none =>
      rw [ej] at t2
      have e3 : z2.1 ku 3 = nI 0 := t2.2
      obtain ⟨z3, v1, v2, v3, v4⟩ := UM.rd71 (F := F) (by omega) x.1.1.length 0 F z2 (by omega) (by omega) um2 e3
      have v1' : fn_X16_read_L71 F sh n ku F z2 0 = some (z3, z3.1 ku 3) := v1
      rw [v1']
      exact ⟨z3, rfl, v3, v2.1, fun q y => by cases y; exact v2⟩
end
