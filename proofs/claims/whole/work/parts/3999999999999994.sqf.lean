/-! THE REFERENCE'S UNIT: structures -/
def pFo (b : Nat → Nat) (len p : Nat) : Ex (Nat × Nat) := sk len 3 p >>= fun s => rN b len 0 15 s.2 >>= fun a => .ok (p, a.2)
def pFos (b : Nat → Nat) (len : Nat) : Nat → Nat → Ex (List Nat × Nat)
  | 0, p => .ok ([], p)
  | k + 1, p => pFo b len p >>= fun c => pFos b len k c.2 >>= fun r => .ok (p :: r.1, r.2)
abbrev SP : Type := Nat × Nat × List Ty
def pSt (b : Nat → Nat) (len p : Nat) : Ex (SP × Nat) := rN b len 0 15 p >>= fun a => rN b len 1 16 a.2 >>= fun c => pTs b len none false c.1 c.2 >>= fun t => .ok ((p, a.1, t.1), t.2)
def pSs (b : Nat → Nat) (len : Nat) : Nat → Nat → Ex (List SP × Nat)
  | 0, p => .ok ([], p)
  | k + 1, p => pSt b len p >>= fun c => pSs b len k c.2 >>= fun r => .ok (c.1 :: r.1, r.2)
def TSt (z : St) (ku i : Nat) (cs : List SP) : Prop := ∀ k, k < cs.length → z.1 (ku + 2) (i + k) = nI (cs.getD k (0, 0, [])).1
def TFo (z : St) (ku i : Nat) (cs : List Nat) : Prop := ∀ k, k < cs.length → z.1 (ku + 2) (i + k) = nI (cs.getD k 0)
section
variable {F n : Nat} {sh : Nat → Nat × Nat} {z z' : St} {ku len p w q : Nat} {b : Nat → Nat}
theorem UF.e224 (hF : 0 < F) (h : UF sh n z ku b len w q) {g : Nat} (hg : 0 < g) (x : Int32) : ∃ z', fn_X16_overAll_L224 F sh n ku g z x = some (z', ()) ∧ UF sh n z' ku b len w q ∧ FrE ku z z' := by
  obtain ⟨z2, s1, s2, s3⟩ := h.e281 (F := F) hF
  obtain ⟨g, rfl⟩ : ∃ k, g = k + 1 := ⟨g - 1, by omega⟩
  refine ⟨z2, ?_, s2, s3⟩
  unfold fn_X16_overAll_L224
  rw [h.good, cal_s, if_pos rfl, s1]
  by_cases c : z.1 ku 6 ≤ x
  · rw [if_pos c]
  · rw [if_neg c]
theorem US.fos (hF : 1100 ≤ F) {m o : Nat} (hm : m ≤ 32) (ho : o ≤ 32) : ∀ k i g z p, i + k = m → k < g → z.1 ku 6 = nI m → z.1 ku 5 = nI o → US sh n z ku b len p → ∃ z', StG sh n ku b len (fn_X16_overAll_L224 F sh n ku g z (nI i)) (fn_X16_overAll_B281 F sh n ku) z' (fun es => TFo z' ku (o + i) es ∧ ∀ j, j < o + i → z'.1 (ku + 2) j = z.1 (ku + 2) j) (pFos b len k p) ∧ FrOw ku [ku + 2] [2, 3, 4, 5, 6, 7, 8, 9] z z' ∧ ((∃ q, pFos b len k p = .ok q) → FrOw ku [ku + 2] [2, 3, 4] z z') := by
  intro k
  induction k with
  | zero =>
    intro i g z p ek hg e8 e5 h
    obtain ⟨g, rfl⟩ : ∃ k, g = k + 1 := ⟨g - 1, by omega⟩
    refine ⟨z, ⟨?_, h, fun k hk => absurd hk (by simp), fun _ _ => rfl⟩, FrOw.rfl', fun _ => FrOw.rfl'⟩
    unfold fn_X16_overAll_L224
    rw [e8, if_pos ((nI_leI (by omega) (by omega)).mpr (by omega))]
  | succ k ih =>
    intro i g z p ek hg e8 e5 h
    obtain ⟨g, rfl⟩ : ∃ k, g = k + 1 := ⟨g - 1, by omega⟩
    obtain ⟨u0, u1, u2, _, _, _, _, _, _, _, u10, _⟩ := b_unit h.1.1 h.1.2.1
    have ok2 : okA sh n (ku + 2) 101 (nI (o + i)) = true := by rw [u10]; exact okI_nI (by omega) (by omega)
    have f0 : FrOw ku [ku + 2] [] z (si z (ku + 2) (o + i) (nI p)) := FrOw.si (.inr ⟨by omega, by simp⟩)
    have h0 : US sh n (si z (ku + 2) (o + i) (nI p)) ku b len p := h.frw f0 (by simp) (by simp)
    obtain ⟨z1, s1, s2, s3⟩ : ∃ z1, cal (fn_X16_over F sh n (si z (ku + 2) (o + i) (nI p)) ku 3) (fun z_145 r_146 => cal (fn_X16_isGood F sh n z_145 ku) (fun z_148 r_149 => if (r_149 : Int32) = 0 then fn_X16_overAll_B275 F sh n (nI i) (fun z9 q1 => fn_X16_overAll_L224 F sh n ku g z9 q1) z_148 else cal (fn_X16_count F sh n z_148 ku 0 15) (fun z_153 r_154 => fn_X16_overAll_B275 F sh n (nI i) (fun z9 q1 => fn_X16_overAll_L224 F sh n ku g z9 q1) z_153))) = fn_X16_overAll_L224 F sh n ku g z1 (nI (i + 1)) ∧ UP sh n z1 ku b len (pFo b len p) ∧ FrCu ku (si z (ku + 2) (o + i) (nI p)) z1 := by
      obtain ⟨z1, s1, s2, s3⟩ := h0.over (F := F) (k := 3) (by omega)
      have s1' : fn_X16_over F sh n (si z (ku + 2) (o + i) (nI p)) ku 3 = some (z1, nI p) := s1
      unfold pFo fn_X16_overAll_B275
      rw [s1', cal_s, nI_1]
      cases a1 : sk len 3 p with
      | error x =>
        rw [a1] at s2
        have s2' : UF sh n z1 ku b len x.1 x.2 := s2
        rw [s2'.good, cal_s, if_pos rfl]
        exact ⟨z1, rfl, s2, s3⟩
      | ok x =>
        rw [a1] at s2
        have s2' : US sh n z1 ku b len x.2 := s2
        obtain ⟨z2, t1, t2, t3⟩ := s2'.count (F := F) (lo := 0) (hi := 15) (by omega) (by omega)
        have t1' : fn_X16_count F sh n z1 ku 0 15 = some (z2, _) := t1
        rw [s2'.good, cal_s, if_neg (by decide), t1', cal_s, ok_bq]
        refine ⟨z2, rfl, ?_, s3.trans t3⟩
        cases a2 : rN b len 0 15 x.2 with
        | error y => rw [a2] at t2; exact t2
        | ok y => rw [a2] at t2; exact t2
    have f1 : FrOw ku [ku + 2] [2, 3, 4] z z1 := (f0.mono (fun _ h => h) (by simp)).trans (s3.w (by simp))
    have hd : fn_X16_overAll_L224 F sh n ku (g + 1) z (nI i) = fn_X16_overAll_L224 F sh n ku g z1 (nI (i + 1)) := by
      conv => lhs; unfold fn_X16_overAll_L224
      rw [e8, if_neg (fun x => by have := (nI_leI (by omega) (by omega)).mp x; omega), h.good, cal_s, if_neg (by decide), u2, lnk_s, e5, nI_add, ok2, grd_true, lt_t, nI_clamp (by omega), h.2.1, s1]
    rw [hd]
    unfold pFos
    have mon : ∀ {za zb : St}, FrOw ku [ku + 2] [2, 3, 4] za zb → FrOw ku [ku + 2] [2, 3, 4, 5, 6, 7, 8, 9] za zb := fun f => f.mono (fun _ h => h) (fun j hj => by simp at hj ⊢; omega)
    cases e : pFo b len p with
    | error x =>
      rw [e] at s2
      have s2' : UF sh n z1 ku b len x.1 x.2 := s2
      obtain ⟨z2, t1, t2, t3⟩ := s2'.e224 (F := F) (by omega) (g := g) (by omega) (nI (i + 1))
      exact ⟨z2, ⟨t1, t2⟩, (mon f1).trans (t3.mono (by simp) (fun j hj => by simp at hj ⊢; omega)), fun ⟨q, x⟩ => by cases x⟩
    | ok x =>
      rw [e] at s2
      have s2' : US sh n z1 ku b len x.2 := s2
      obtain ⟨z2, v1, v2, v3⟩ := ih (i + 1) g z1 x.2 (by omega) (by omega) (by rw [f1.2.2 6 (by simp)]; exact e8) (by rw [f1.2.2 5 (by simp)]; exact e5) s2'
      rw [ok_bq]
      refine ⟨z2, ?_, (mon f1).trans v2, fun ⟨q, y⟩ => ?_⟩
      · cases e2 : pFos b len k x.2 with
        | error y => rw [e2] at v1; exact v1
        | ok y =>
          rw [e2] at v1
          obtain ⟨w1, w2, w3, w4⟩ := v1
          refine ⟨w1, w2, fun j hj => ?_, fun j hj => ?_⟩
          · cases j with
            | zero =>
              show z2.1 (ku + 2) (o + i) = nI p
              rw [w4 (o + i) (by omega), s3.2.1 (ku + 2) (by omega), si_ss]
            | succ j =>
              have := w3 j (by have : j + 1 < y.1.length + 1 := hj; omega)
              rw [show o + i + (j + 1) = o + (i + 1) + j by omega, this]; rfl
          · rw [w4 j (by omega), s3.2.1 (ku + 2) (by omega), si_oj (by omega)]
      · cases e2 : pFos b len k x.2 with
        | error y2 => rw [e2] at y; cases y
        | ok y2 => exact f1.trans (v3 ⟨y2, e2⟩)
theorem US.tys (hF : 300 ≤ F) {m : Nat} (hm : m < 256) (i : Int32) {K : St → Int32 → Option (St × Unit)} : ∀ k r g z p, r + k = m → k < g → US sh n z ku b len p → ∃ z', fn_X16_overAll_L171 F sh n (nI m) i ku K g z (nI r) = K z' (i + 1) ∧ UP sh n z' ku b len (pTs b len none false k p) ∧ FrCu ku z z' := by
  intro k
  induction k with
  | zero =>
    intro r g z p ek hg h
    obtain ⟨g, rfl⟩ : ∃ k, g = k + 1 := ⟨g - 1, by omega⟩
    unfold fn_X16_overAll_L171 pTs fn_X16_overAll_B194
    rw [if_pos ((nI_leI (by omega) (by omega)).mpr (by omega))]
    exact ⟨z, rfl, h, FrCu.rfl'⟩
  | succ k ih =>
    intro r g z p ek hg h
    obtain ⟨g, rfl⟩ : ∃ k, g = k + 1 := ⟨g - 1, by omega⟩
    obtain ⟨z1, s1, s2, s3⟩ := h.overType (F := F) hF false
    have s1' : fn_X16_overType F sh n z ku 0 = some (z1, ()) := s1
    conv => enter [1, z', 1, 1]; unfold fn_X16_overAll_L171
    unfold pTs
    rw [if_neg (fun x => by have := (nI_leI (by omega) (by omega)).mp x; omega), h.good, cal_s, if_neg (by decide), s1', cal_s, nI_1]
    cases e : rT b len none false p with
    | error x =>
      rw [e] at s2
      obtain ⟨g', rfl⟩ : ∃ k, g = k + 1 := ⟨g - 1, by omega⟩
      refine ⟨z1, ?_, s2, s3⟩
      unfold fn_X16_overAll_L171 fn_X16_overAll_B194
      rw [UF.good (F := F) s2, cal_s, if_pos rfl]
      by_cases c : nI m ≤ nI (r + 1)
      · rw [if_pos c]
      · rw [if_neg c]
    | ok x =>
      rw [e] at s2
      have s2' : US sh n z1 ku b len x.2 := s2
      obtain ⟨z2, t1, t2, t3⟩ := ih (r + 1) g z1 x.2 (by omega) (by omega) s2'
      refine ⟨z2, t1, ?_, s3.trans t3⟩
      rw [ok_bq]
      cases e2 : pTs b len none false k x.2 with
      | error y => rw [e2] at t2; exact t2
      | ok y => rw [e2] at t2; exact t2
end
