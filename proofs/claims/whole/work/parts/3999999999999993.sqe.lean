/-! THE REFERENCE'S UNIT: foreign functions -/
abbrev CP : Type := Nat × List Ty × List Ty
def pCa (b : Nat → Nat) (len p : Nat) : Ex (CP × Nat) := sk len 3 p >>= fun s => rN b len 0 7 s.2 >>= fun a => pLs b len none 8 a.2 >>= fun t => pLs b len none 8 t.2 >>= fun g => .ok ((p, t.1, g.1), g.2)
def pCs (b : Nat → Nat) (len : Nat) : Nat → Nat → Ex (List CP × Nat)
  | 0, p => .ok ([], p)
  | k + 1, p => pCa b len p >>= fun c => pCs b len k c.2 >>= fun r => .ok (c.1 :: r.1, r.2)
def TCa (z : St) (ku i : Nat) (cs : List CP) : Prop := ∀ k, k < cs.length → z.1 (ku + 3) (i + k) = nI (cs.getD k (0, [], [])).1
section
variable {F n : Nat} {sh : Nat → Nat × Nat} {z z' : St} {ku len p w q : Nat} {b : Nat → Nat}
theorem UF.e305 (hF : 0 < F) (h : UF sh n z ku b len w q) {g : Nat} (hg : 0 < g) (x : Int32) : ∃ z', fn_X16_overAll_L305 F sh n ku g z x = some (z', ()) ∧ UF sh n z' ku b len w q ∧ FrE ku z z' := by
  obtain ⟨z2, s1, s2, s3⟩ := h.e385 (F := F) hF
  obtain ⟨g, rfl⟩ : ∃ k, g = k + 1 := ⟨g - 1, by omega⟩
  refine ⟨z2, ?_, s2, s3⟩
  unfold fn_X16_overAll_L305
  rw [h.good, cal_s, if_pos rfl, s1]
  by_cases c : z.1 ku 7 ≤ x
  · rw [if_pos c]
  · rw [if_neg c]
theorem UF.e365 {K : St → Int32 → Option (St × Unit)} (h : UF sh n z ku b len w q) (i : Int32) : fn_X16_overAll_B365 F sh n ku i K z = K z (i + 1) := by
  unfold fn_X16_overAll_B365 fn_X16_overAll_B379
  rw [h.good, cal_s, if_pos rfl]
theorem UF.e351 {K : St → Int32 → Option (St × Unit)} (h : UF sh n z ku b len w q) (i : Int32) : fn_X16_overAll_B351 F sh n ku i K z = K z (i + 1) := by
  unfold fn_X16_overAll_B351
  rw [h.good, cal_s, if_pos rfl]
  exact h.e365 i
/-- one foreign function -/
theorem US.ca (hF : 300 ≤ F) (h : US sh n z ku b len p) {K : St → Int32 → Option (St × Unit)} (i : Int32) : ∃ z', cal (fn_X16_over F sh n z ku 3) (fun z_107 r_108 => cal (fn_X16_isGood F sh n z_107 ku) (fun z_110 r_111 => if (r_111 : Int32) = 0 then fn_X16_overAll_B351 F sh n ku i K z_110 else cal (fn_X16_count F sh n z_110 ku 0 7) (fun z_129 r_130 => fn_X16_overAll_B351 F sh n ku i K z_129))) = K z' (i + 1) ∧ UP sh n z' ku b len (pCa b len p) ∧ FrCu ku z z' := by
  obtain ⟨z1, s1, s2, s3⟩ := h.over (F := F) (k := 3) (by omega)
  have s1' : fn_X16_over F sh n z ku 3 = some (z1, nI p) := s1
  unfold pCa
  rw [s1', cal_s]
  cases a1 : sk len 3 p with
  | error x =>
    rw [a1] at s2
    have s2' : UF sh n z1 ku b len x.1 x.2 := s2
    rw [s2'.good, cal_s, if_pos rfl, s2'.e351]
    exact ⟨z1, rfl, s2, s3⟩
  | ok x =>
    rw [a1] at s2
    have s2' : US sh n z1 ku b len x.2 := s2
    obtain ⟨z2, t1, t2, t3⟩ := s2'.count (F := F) (lo := 0) (hi := 7) (by omega) (by omega)
    have t1' : fn_X16_count F sh n z1 ku 0 7 = some (z2, _) := t1
    rw [s2'.good, cal_s, if_neg (by decide), t1', cal_s, ok_bq]
    cases a2 : rN b len 0 7 x.2 with
    | error y =>
      rw [a2] at t2
      have t2' : UF sh n z2 ku b len y.1 y.2 := t2
      rw [t2'.e351]
      exact ⟨z2, rfl, t2, s3.trans t3⟩
    | ok y =>
      rw [a2] at t2
      have t2' : US sh n z2 ku b len y.2 := t2
      obtain ⟨z3, v1, v2, v3⟩ := t2'.overList (F := F) hF (most := 8) (by omega)
      have v1' : fn_X16_overList F sh n z2 ku 8 1 = some (z3, ()) := v1
      unfold fn_X16_overAll_B351
      rw [t2'.good, cal_s, if_neg (by decide), v1', cal_s, ok_bq]
      cases a3 : pLs b len none 8 y.2 with
      | error v =>
        rw [a3] at v2
        have v2' : UF sh n z3 ku b len v.1 v.2 := v2
        rw [v2'.e365]
        exact ⟨z3, rfl, v2, (s3.trans t3).trans v3⟩
      | ok v =>
        rw [a3] at v2
        have v2' : US sh n z3 ku b len v.2 := v2
        obtain ⟨z4, y1, y2, y3⟩ := v2'.overList (F := F) hF (most := 8) (by omega)
        have y1' : fn_X16_overList F sh n z3 ku 8 1 = some (z4, ()) := y1
        unfold fn_X16_overAll_B365 fn_X16_overAll_B379
        rw [v2'.good, cal_s, if_neg (by decide), y1', cal_s, ok_bq]
        refine ⟨z4, rfl, ?_, ((s3.trans t3).trans v3).trans y3⟩
        cases a4 : pLs b len none 8 v.2 with
        | error u => rw [a4] at y2; exact y2
        | ok u => rw [a4] at y2; exact y2
theorem US.cas (hF : 1100 ≤ F) {m : Nat} (hm : m ≤ 32) : ∀ k i g z p, i + k = m → k < g → z.1 ku 7 = nI m → US sh n z ku b len p → ∃ z', StG sh n ku b len (fn_X16_overAll_L305 F sh n ku g z (nI i)) (fn_X16_overAll_B385 F sh n ku) z' (fun es => TCa z' ku i es ∧ ∀ j, j < i → z'.1 (ku + 3) j = z.1 (ku + 3) j) (pCs b len k p) ∧ FrOw ku [ku + 3] [2, 3, 4, 5, 6, 7, 8, 9] z z' ∧ ((∃ q, pCs b len k p = .ok q) → FrOw ku [ku + 3] [2, 3, 4] z z') := by
  intro k
  induction k with
  | zero =>
    intro i g z p ek hg e8 h
    obtain ⟨g, rfl⟩ : ∃ k, g = k + 1 := ⟨g - 1, by omega⟩
    refine ⟨z, ⟨?_, h, fun k hk => absurd hk (by simp), fun _ _ => rfl⟩, FrOw.rfl', fun _ => FrOw.rfl'⟩
    unfold fn_X16_overAll_L305
    rw [e8, if_pos ((nI_leI (by omega) (by omega)).mpr (by omega))]
  | succ k ih =>
    intro i g z p ek hg e8 h
    obtain ⟨g, rfl⟩ : ∃ k, g = k + 1 := ⟨g - 1, by omega⟩
    obtain ⟨u0, u1, _, u3, u4, _, _, _, _, _, _, u11, u12, _⟩ := b_unit h.1.1 h.1.2.1
    have ok3 : okA sh n (ku + 3) 101 (nI i) = true := by rw [u11]; exact okI_nI (by omega) (by omega)
    have f0 : FrOw ku [ku + 3] [] z (si z (ku + 3) i (nI p)) := FrOw.si (.inr ⟨by omega, by simp⟩)
    have h0 : US sh n (si z (ku + 3) i (nI p)) ku b len p := h.frw f0 (by simp) (by simp)
    obtain ⟨z1, s1, s2, s3⟩ := h0.ca (F := F) (by omega) (K := fun z9 q1 => fn_X16_overAll_L305 F sh n ku g z9 q1) (nI i)
    have f1 : FrOw ku [ku + 3] [2, 3, 4] z z1 := (f0.mono (fun _ h => h) (by simp)).trans (s3.w (by simp))
    have hd : fn_X16_overAll_L305 F sh n ku (g + 1) z (nI i) = fn_X16_overAll_L305 F sh n ku g z1 (nI (i + 1)) := by
      conv => lhs; unfold fn_X16_overAll_L305
      rw [e8, if_neg (fun x => by have := (nI_leI (by omega) (by omega)).mp x; omega), h.good, cal_s, if_neg (by decide), u3, lnk_s, ok3, grd_true, lt_t, nI_clamp (by omega), h.2.1, s1, nI_1]
    rw [hd]
    unfold pCs
    have mon : ∀ {za zb : St}, FrOw ku [ku + 3] [2, 3, 4] za zb → FrOw ku [ku + 3] [2, 3, 4, 5, 6, 7, 8, 9] za zb := fun f => f.mono (fun _ h => h) (fun j hj => by simp at hj ⊢; omega)
    cases e : pCa b len p with
    | error x =>
      rw [e] at s2
      have s2' : UF sh n z1 ku b len x.1 x.2 := s2
      obtain ⟨z2, t1, t2, t3⟩ := s2'.e305 (F := F) (by omega) (g := g) (by omega) (nI (i + 1))
      exact ⟨z2, ⟨t1, t2⟩, (mon f1).trans (t3.mono (by simp) (fun j hj => by simp at hj ⊢; omega)), fun ⟨q, x⟩ => by cases x⟩
    | ok x =>
      rw [e] at s2
      have s2' : US sh n z1 ku b len x.2 := s2
      have ep : x.1.1 = p := by
        unfold pCa at e
        cases a1 : sk len 3 p with
        | error y => rw [a1] at e; cases e
        | ok y =>
          rw [a1, ok_bq] at e
          cases a2 : rN b len 0 7 y.2 with
          | error v => rw [a2] at e; cases e
          | ok v =>
            rw [a2, ok_bq] at e
            cases a3 : pLs b len none 8 v.2 with
            | error u => rw [a3] at e; cases e
            | ok u =>
              rw [a3, ok_bq] at e
              cases a4 : pLs b len none 8 u.2 with
              | error t => rw [a4] at e; cases e
              | ok t => rw [a4] at e; cases e; rfl
      obtain ⟨z2, v1, v2, v3⟩ := ih (i + 1) g z1 x.2 (by omega) (by omega) (by rw [f1.2.2 7 (by simp)]; exact e8) s2'
      rw [ok_bq]
      refine ⟨z2, ?_, (mon f1).trans v2, fun ⟨q, y⟩ => ?_⟩
      · cases e2 : pCs b len k x.2 with
        | error y => rw [e2] at v1; exact v1
        | ok y =>
          rw [e2] at v1
          obtain ⟨w1, w2, w3, w4⟩ := v1
          refine ⟨w1, w2, fun j hj => ?_, fun j hj => ?_⟩
          · cases j with
            | zero =>
              show z2.1 (ku + 3) i = nI x.1.1
              rw [w4 i (by omega), s3.2.1 (ku + 3) (by omega), si_ss, ep]
            | succ j =>
              have := w3 j (by have : j + 1 < y.1.length + 1 := hj; omega)
              rw [show i + (j + 1) = i + 1 + j by omega, this]; rfl
          · rw [w4 j (by omega), s3.2.1 (ku + 3) (by omega), si_oj (by omega)]
      · cases e2 : pCs b len k x.2 with
        | error y2 => rw [e2] at y; cases y
        | ok y2 => exact f1.trans (v3 ⟨y2, e2⟩)
end
