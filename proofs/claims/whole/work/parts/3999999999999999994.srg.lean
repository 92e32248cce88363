/-! THE REFERENCE'S UNIT: a module is read from a row of bytes -/
theorem nar8 (x : Int32) : vp_nar .byte x &&& 255 = x &&& 255 := by
  have : vp_nar .byte x = x.toInt8.toInt32 := rfl
  rw [this, i8_and]
def bOf (v : Int32) : Nat := v.toBitVec.toNat % 256
theorem bOf_e (v : Int32) : v &&& 255 = nI (bOf v) := and255 v
theorem bOf_lt (v : Int32) : bOf v < 256 := Nat.mod_lt _ (by decide)
/-- all but the unit's own cells -/
def FrUn (ku : Nat) (z z' : St) : Prop := z'.2 = z.2 ∧ ∀ k, k < ku ∨ ku + 8 < k → z'.1 k = z.1 k
theorem FrUn.rfl' {ku : Nat} {z : St} : FrUn ku z z := ⟨rfl, fun _ _ => rfl⟩
theorem FrUn.trans {ku : Nat} {z z' z'' : St} (f : FrUn ku z z') (g : FrUn ku z' z'') : FrUn ku z z'' := ⟨g.1.trans f.1, fun k h => (g.2 k h).trans (f.2 k h)⟩
theorem FrUn.si {ku k j : Nat} {z : St} {v : Int32} (h : ku ≤ k ∧ k ≤ ku + 8) : FrUn ku z (si z k j v) := ⟨rfl, fun i hi => si_ok (by omega)⟩
theorem FrOw.un {ku : Nat} {ks js : List Nat} {z z' : St} (f : FrOw ku ks js z z') (h : ∀ k, k ∈ ks → ku ≤ k ∧ k ≤ ku + 8) : FrUn ku z z' := ⟨f.1, fun k hk => f.2.1 k (by omega) (fun q => by have := h k q; omega)⟩
section
variable {F n : Nat} {sh : Nat → Nat × Nat} {z z' : St} {ku len x0 st : Nat} {b : Nat → Nat}
theorem US.readU (hF : 1100 ≤ F) (h : US sh n z ku b len 0) (e10 : z.1 ku 10 = nI 0) : ∃ z', cal (fn_X16_overAll F sh n z ku) (fun z_16 _ => cal (fn_X16_isGood F sh n z_16 ku) (fun z_18 r_19 => if (r_19 : Int32) = 0 then fn_X16_read_B68 F sh n ku z_18 else cal (fn_X16_lookAll F sh n z_18 ku) (fun z_40 _ => fn_X16_read_B68 F sh n ku z_40))) = some (z', z'.1 ku 3) ∧ FtR z' ku (rdMd b len) ∧ UB sh n z' ku b len ∧ (∀ q, pAll b len = .ok q → UM sh n z' ku b len q.1) ∧ FrUn ku z z' := by
  obtain ⟨z1, s1, s2, s3, s4⟩ := h.overAll (F := F) hF e10
  have f1 : FrUn ku z z1 := s4.un (fun k hk => by simp at hk; omega)
  unfold rdMd fn_X16_read_B68
  rw [s1, cal_s]
  cases e : pAll b len with
  | error x =>
    rw [e] at s2
    have s2' : UF sh n z1 ku b len x.1 x.2 := s2
    have ft : FtR z1 ku (some x) := ⟨s2'.2.1, s2'.2.2.1, s2'.2.2.2.1, s2'.2.2.2.2⟩
    rw [s2'.good, cal_s, if_pos rfl, rd_e s2'.1 ft (by omega)]
    exact ⟨z1, rfl, ft, s2'.1, fun q y => (by cases y), f1⟩
  | ok x =>
    have tm := s3 x e
    rw [e] at s2
    have s2' : US sh n z1 ku b len x.2 := s2
    have um : UM sh n z1 ku b len x.1 := ⟨s2'.1, tm, (pAll_p e).1⟩
    have hA := pAll_a e
    have l32 := um.2.2.1.1
    obtain ⟨z2, t1, t2⟩ := JS.lookAll (F := F) hF um hA s2'.2.2.2
    have um2 := JS.um um t2
    have f2 : FrUn ku z z2 := f1.trans ((t2.1.w (ks := []) (js := [2, 3, 4]) (by simp)).un (by simp))
    rw [s2'.good, cal_s, if_neg (by decide), t1, cal_s]
    show ∃ z', _ ∧ FtR z' ku (orE (jM b x.1) (jRd x.1 x.1.1.length 0)) ∧ _
    cases ej : jM b x.1 with
    | some y =>
      rw [ej] at t2
      have ft : FtR z2 ku (some y) := t2.2
      rw [rd_e um2.1 ft (by omega)]
      exact ⟨z2, rfl, ft, um2.1, fun q y => (by cases y; exact um2), f2⟩
    | none =>
      rw [ej] at t2
      have e3 : z2.1 ku 3 = nI 0 := t2.2
      obtain ⟨z3, v1, v2, v3, v4⟩ := UM.rd71 (F := F) (by omega) x.1.1.length 0 F z2 (by omega) (by omega) um2 e3
      have v1' : fn_X16_read_L71 F sh n ku F z2 0 = some (z3, z3.1 ku 3) := v1
      rw [v1']
      exact ⟨z3, rfl, v3, v2.1, fun q y => (by cases y; exact v2), f2.trans (v4.un (by simp))⟩
theorem readRT (hF : 2100 ≤ F) (hL : Lay sh n z) (hu : isU ku) (hl : len ≤ 2048) (hs : x0 < ku ∨ ku + 8 < x0) (h31 : st + 2048 < 2 ^ 31) (ho : ∀ p, p < len → okA sh n x0 100 (nI (st + p)) = true) (hb : ∀ p, p < len → b p = bOf (z.1 x0 (st + p))) : ∃ z', fn_X16_read F sh n z ku x0 (nI st) (nI len) = some (z', z'.1 ku 3) ∧ FtR z' ku (rdMd b len) ∧ UB sh n z' ku b len ∧ (∀ q, pAll b len = .ok q → UM sh n z' ku b len q.1) ∧ FrUn ku z z' := by
  have lp : ∀ m p g z, p + m = len → m < g → Lay sh n z → z.1 ku 1 = nI len → (∀ q, q < len → b q = bOf (z.1 x0 (st + q))) → (∀ q, q < p → z.1 (ku + 1) q &&& 255 = nI (b q)) → ∃ z', fn_X16_read_L8 F sh n (nI len) ku x0 (nI st) g z (nI p) = some (z', z'.1 ku 3) ∧ FtR z' ku (rdMd b len) ∧ UB sh n z' ku b len ∧ (∀ q, pAll b len = .ok q → UM sh n z' ku b len q.1) ∧ FrUn ku z z' := by
    intro m
    induction m with
    | zero =>
      intro p g z ep hg hL e1 hb hc
      obtain ⟨g, rfl⟩ : ∃ q, g = q + 1 := ⟨g - 1, by omega⟩
      obtain rfl : p = len := by omega
      unfold fn_X16_read_L8
      rw [if_pos ((nI_leI (by omega) (by omega)).mpr (Nat.le_refl _)), lt_t, lt_t, lt_t, lt_t]
      let y := si (si (si (si z ku 2 0) ku 3 0) ku 4 0) ku 10 0
      have fy : FrUn ku z y := (FrUn.si (by omega)).trans ((FrUn.si (by omega)).trans ((FrUn.si (by omega)).trans (FrUn.si (by omega))))
      have us : US sh n y ku b p 0 := by
        refine ⟨⟨hL.of rfl, hu, ?_, hl, fun q hq => ⟨?_, ?_⟩⟩, ?_, by omega, ?_⟩
        · show (si (si (si (si z ku 2 0) ku 3 0) ku 4 0) ku 10 0).1 ku 1 = _
          rw [si_oj (by omega), si_oj (by omega), si_oj (by omega), si_oj (by omega)]; exact e1
        · show (si (si (si (si z ku 2 0) ku 3 0) ku 4 0) ku 10 0).1 (ku + 1) q &&& 255 = _
          rw [si_ok (by omega), si_ok (by omega), si_ok (by omega), si_ok (by omega)]; exact hc q hq
        · rw [hb q hq]; exact bOf_lt _
        · show (si (si (si (si z ku 2 0) ku 3 0) ku 4 0) ku 10 0).1 ku 2 = _
          rw [si_oj (by omega), si_oj (by omega), si_oj (by omega), si_ss]; rfl
        · show (si (si (si (si z ku 2 0) ku 3 0) ku 4 0) ku 10 0).1 ku 3 = _
          rw [si_oj (by omega), si_oj (by omega), si_ss]; rfl
      have e10 : y.1 ku 10 = nI 0 := si_ss
      obtain ⟨z', q1, q2, q3, q4, q5⟩ := us.readU (F := F) (by omega) e10
      exact ⟨z', q1, q2, q3, q4, fy.trans q5⟩
    | succ m ih =>
      intro p g z ep hg hL e1 hb hc
      obtain ⟨g, rfl⟩ : ∃ q, g = q + 1 := ⟨g - 1, by omega⟩
      obtain ⟨u0, u1, _, _, _, _, _, _, _, u9, _⟩ := b_unit hL hu
      unfold fn_X16_read_L8
      rw [if_neg (fun x => by have := (nI_leI (by omega) (by omega)).mp x; omega), u1, lnk_s, nI_add, ho p (by omega), grd_true, u9, okI_nI (show p < 2048 by omega) (by omega), grd_true, lt_t, nI_clamp (by omega), nI_clamp (by omega), nI_1]
      have fy : FrUn ku z (si z (ku + 1) p (vp_nar .byte (z.1 x0 (st + p)))) := FrUn.si (by omega)
      obtain ⟨z', q1, q2, q3, q4, q5⟩ := ih (p + 1) g (si z (ku + 1) p (vp_nar .byte (z.1 x0 (st + p)))) (by omega) (by omega) (hL.of rfl) (by rw [si_ok (by omega)]; exact e1) (fun q hq => by rw [fy.2 x0 (by omega)]; exact hb q hq) (fun q hq => by
        by_cases c : q = p
        · subst c; rw [si_ss, nar8, hb q (by omega), bOf_e]
        · rw [si_oj c]; exact hc q (by omega))
      exact ⟨z', q1, q2, q3, q4, fy.trans q5⟩
  unfold fn_X16_read
  rw [(b_unit hL hu).1, grd_true, lt_t]
  have fy : FrUn ku z (si z ku 1 (nI len)) := FrUn.si (by omega)
  obtain ⟨z', q1, q2, q3, q4, q5⟩ := lp len 0 F (si z ku 1 (nI len)) (by omega) (by omega) (hL.of rfl) si_ss (fun q hq => by rw [fy.2 x0 (by omega)]; exact hb q hq) (fun q hq => absurd hq (by omega))
  exact ⟨z', q1, q2, q3, q4, fy.trans q5⟩
end
