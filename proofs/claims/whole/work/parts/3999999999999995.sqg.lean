/-! THE REFERENCE'S UNIT: own structures; the beginning -/
section
variable {F n : Nat} {sh : Nat → Nat × Nat} {z z' : St} {ku len p w q : Nat} {b : Nat → Nat}
theorem e168 (hF : 0 < F) {i : Int32} {K : St → Int32 → Option (St × Unit)} : fn_X16_overAll_B168 F sh n i ku K z 0 = K z (i + 1) := by
  unfold fn_X16_overAll_B168
  have : ∀ G, 0 < G → fn_X16_overAll_L171 F sh n 0 i ku (fun z9 q1 => K z9 q1) G z 0 = K z (i + 1) := fun G hG => by
    obtain ⟨G, rfl⟩ : ∃ k, G = k + 1 := ⟨G - 1, by omega⟩
    unfold fn_X16_overAll_L171 fn_X16_overAll_B194
    rw [if_pos (show (0 : Int32) ≤ 0 by decide)]
  exact this F hF
theorem US.st1 (hF : 300 ≤ F) (h : US sh n z ku b len p) {K : St → Int32 → Option (St × Unit)} (i : Int32) : ∃ z', cal (fn_X16_count F sh n z ku 0 15) (fun z_169 r_170 => cal (fn_X16_isGood F sh n z_169 ku) (fun z_172 r_173 => if (r_173 : Int32) = 0 then fn_X16_overAll_B168 F sh n i ku K z_172 0 else cal (fn_X16_count F sh n z_172 ku 1 16) (fun z_189 r_190 => fn_X16_overAll_B168 F sh n i ku K z_189 r_190))) = K z' (i + 1) ∧ UP sh n z' ku b len (pSt b len p) ∧ FrCu ku z z' := by
  obtain ⟨z1, s1, s2, s3⟩ := h.count (F := F) (lo := 0) (hi := 15) (by omega) (by omega)
  have s1' : fn_X16_count F sh n z ku 0 15 = some (z1, nI (vN (rN b len 0 15 p))) := s1
  unfold pSt
  rw [s1', cal_s]
  cases a1 : rN b len 0 15 p with
  | error x =>
    rw [a1] at s2
    have s2' : UF sh n z1 ku b len x.1 x.2 := s2
    rw [s2'.good, cal_s, if_pos rfl, e168 (by omega)]
    exact ⟨z1, rfl, s2, s3⟩
  | ok x =>
    rw [a1] at s2
    have s2' : US sh n z1 ku b len x.2 := s2
    obtain ⟨z2, t1, t2, t3⟩ := s2'.count (F := F) (lo := 1) (hi := 16) (by omega) (by omega)
    have t1' : fn_X16_count F sh n z1 ku 1 16 = some (z2, nI (vN (rN b len 1 16 x.2))) := t1
    rw [s2'.good, cal_s, if_neg (by decide), t1', cal_s, ok_bq]
    cases a2 : rN b len 1 16 x.2 with
    | error y =>
      rw [a2] at t2
      have e0 : nI (vN (.error y : Ex (Nat × Nat))) = 0 := rfl
      rw [e0, e168 (by omega)]
      exact ⟨z2, rfl, t2, s3.trans t3⟩
    | ok y =>
      rw [a2] at t2
      have t2' : US sh n z2 ku b len y.2 := t2
      obtain ⟨l1, l2, _⟩ := rN_le a2
      obtain ⟨z3, v1, v2, v3⟩ := US.tys (F := F) hF (m := y.1) (by omega) i (K := K) y.1 0 F z2 y.2 (by omega) (by omega) t2'
      rw [ok_bq]
      refine ⟨z3, v1, ?_, (s3.trans t3).trans v3⟩
      cases a3 : pTs b len none false y.1 y.2 with
      | error u => rw [a3] at v2; exact v2
      | ok u => rw [a3] at v2; exact v2
theorem US.sts (hF : 1100 ≤ F) {m : Nat} (hm : m ≤ 32) : ∀ k i g z p, i + k = m → k < g → z.1 ku 5 = nI m → US sh n z ku b len p → ∃ z', StG sh n ku b len (fn_X16_overAll_L117 F sh n ku g z (nI i)) (fn_X16_overAll_B200 F sh n ku) z' (fun es => TSt z' ku i es ∧ ∀ j, j < i → z'.1 (ku + 2) j = z.1 (ku + 2) j) (pSs b len k p) ∧ FrOw ku [ku + 2] [2, 3, 4, 5, 6, 7, 8, 9] z z' ∧ ((∃ q, pSs b len k p = .ok q) → FrOw ku [ku + 2] [2, 3, 4] z z') := by
  intro k
  induction k with
  | zero =>
    intro i g z p ek hg e8 h
    obtain ⟨g, rfl⟩ : ∃ k, g = k + 1 := ⟨g - 1, by omega⟩
    refine ⟨z, ⟨?_, h, fun k hk => absurd hk (by simp), fun _ _ => rfl⟩, FrOw.rfl', fun _ => FrOw.rfl'⟩
    unfold fn_X16_overAll_L117
    rw [e8, if_pos ((nI_leI (by omega) (by omega)).mpr (by omega))]
  | succ k ih =>
    intro i g z p ek hg e8 h
    obtain ⟨g, rfl⟩ : ∃ k, g = k + 1 := ⟨g - 1, by omega⟩
    obtain ⟨u0, u1, u2, _, _, _, _, _, _, _, u10, _⟩ := b_unit h.1.1 h.1.2.1
    have ok2 : okA sh n (ku + 2) 101 (nI i) = true := by rw [u10]; exact okI_nI (by omega) (by omega)
    have f0 : FrOw ku [ku + 2] [] z (si z (ku + 2) i (nI p)) := FrOw.si (.inr ⟨by omega, by simp⟩)
    have h0 : US sh n (si z (ku + 2) i (nI p)) ku b len p := h.frw f0 (by simp) (by simp)
    obtain ⟨z1, s1, s2, s3⟩ := h0.st1 (F := F) (by omega) (K := fun z9 q1 => fn_X16_overAll_L117 F sh n ku g z9 q1) (nI i)
    have f1 : FrOw ku [ku + 2] [2, 3, 4] z z1 := (f0.mono (fun _ h => h) (by simp)).trans (s3.w (by simp))
    have hd : fn_X16_overAll_L117 F sh n ku (g + 1) z (nI i) = fn_X16_overAll_L117 F sh n ku g z1 (nI (i + 1)) := by
      conv => lhs; unfold fn_X16_overAll_L117
      rw [e8, if_neg (fun x => by have := (nI_leI (by omega) (by omega)).mp x; omega), h.good, cal_s, if_neg (by decide), u2, lnk_s, ok2, grd_true, lt_t, nI_clamp (by omega), h.2.1, s1, nI_1]
    rw [hd]
    unfold pSs
    have mon : ∀ {za zb : St}, FrOw ku [ku + 2] [2, 3, 4] za zb → FrOw ku [ku + 2] [2, 3, 4, 5, 6, 7, 8, 9] za zb := fun f => f.mono (fun _ h => h) (fun j hj => by simp at hj ⊢; omega)
    cases e : pSt b len p with
    | error x =>
      rw [e] at s2
      have s2' : UF sh n z1 ku b len x.1 x.2 := s2
      obtain ⟨z2, t1, t2, t3⟩ := s2'.e117 (F := F) (by omega) (g := g) (by omega) (nI (i + 1))
      exact ⟨z2, ⟨t1, t2⟩, (mon f1).trans (t3.mono (by simp) (fun j hj => by simp at hj ⊢; omega)), fun ⟨q, x⟩ => by cases x⟩
    | ok x =>
      rw [e] at s2
      have s2' : US sh n z1 ku b len x.2 := s2
      have ep : x.1.1 = p := by
        unfold pSt at e
        cases a1 : rN b len 0 15 p with
        | error y => rw [a1] at e; cases e
        | ok y =>
          rw [a1, ok_bq] at e
          cases a2 : rN b len 1 16 y.2 with
          | error v => rw [a2] at e; cases e
          | ok v =>
            rw [a2, ok_bq] at e
            cases a3 : pTs b len none false v.1 v.2 with
            | error u => rw [a3] at e; cases e
            | ok u => rw [a3] at e; cases e; rfl
      obtain ⟨z2, v1, v2, v3⟩ := ih (i + 1) g z1 x.2 (by omega) (by omega) (by rw [f1.2.2 5 (by simp)]; exact e8) s2'
      rw [ok_bq]
      refine ⟨z2, ?_, (mon f1).trans v2, fun ⟨q, y⟩ => ?_⟩
      · cases e2 : pSs b len k x.2 with
        | error y => rw [e2] at v1; exact v1
        | ok y =>
          rw [e2] at v1
          obtain ⟨w1, w2, w3, w4⟩ := v1
          refine ⟨w1, w2, fun j hj => ?_, fun j hj => ?_⟩
          · cases j with
            | zero =>
              show z2.1 (ku + 2) i = nI x.1.1
              rw [w4 i (by omega), s3.2.1 (ku + 2) (by omega), si_ss, ep]
            | succ j =>
              have := w3 j (by have : j + 1 < y.1.length + 1 := hj; omega)
              rw [show i + (j + 1) = i + 1 + j by omega, this]; rfl
          · rw [w4 j (by omega), s3.2.1 (ku + 2) (by omega), si_oj (by omega)]
      · cases e2 : pSs b len k x.2 with
        | error y2 => rw [e2] at y; cases y
        | ok y2 => exact f1.trans (v3 ⟨y2, e2⟩)
end
/-- the first four bytes -/
def hdB (k : Nat) : Nat := if k = 0 then 82 else if k = 1 then 76 else if k = 2 then 77 else 49
def pHd (b : Nat → Nat) (len : Nat) : Nat → Nat → Ex (Unit × Nat)
  | 0, p => .ok ((), p)
  | k + 1, p => rBy b len p >>= fun q => if q.1 ≠ hdB p then .error (1, p) else pHd b len k q.2
section
variable {F n : Nat} {sh : Nat → Nat × Nat} {z z' : St} {ku len p w q : Nat} {b : Nat → Nat}
theorem US.hd (hF : 1100 ≤ F) : ∀ k p g z, p + k = 4 → k < g → US sh n z ku b len p → ∃ z', StG sh n ku b len (fn_X16_overAll_L2 F sh n ku g z (nI p)) (fn_X16_overAll_B80 F sh n ku) z' (fun _ => True) (pHd b len k p) ∧ FrOw ku [] [2, 3, 4, 5, 6, 7, 8, 9] z z' ∧ ((∃ q, pHd b len k p = .ok q) → FrOw ku [] [2, 3, 4] z z') := by
  intro k
  induction k with
  | zero =>
    intro p g z ek hg h
    obtain ⟨g, rfl⟩ : ∃ k, g = k + 1 := ⟨g - 1, by omega⟩
    have ep : p = 4 := by omega
    subst ep
    refine ⟨z, ⟨?_, h, trivial⟩, FrOw.rfl', fun _ => FrOw.rfl'⟩
    unfold fn_X16_overAll_L2
    rw [if_pos (show (4 : Int32) ≤ nI 4 by decide)]
  | succ k ih =>
    intro p g z ek hg h
    obtain ⟨g, rfl⟩ : ∃ k, g = k + 1 := ⟨g - 1, by omega⟩
    obtain ⟨z1, s1, s2, s3⟩ := h.over1 (F := F)
    have mon : ∀ {za zb : St}, FrCu ku za zb → FrOw ku [] [2, 3, 4, 5, 6, 7, 8, 9] za zb := fun f => f.w (by simp)
    have hd : fn_X16_overAll_L2 F sh n ku (g + 1) z (nI p) = fn_X16_overAll_B51 F sh n ku (nI p) (nI p) (fun z9 q1 => fn_X16_overAll_L2 F sh n ku g z9 q1) z1 (nI (hdB p)) := by
      conv => lhs; unfold fn_X16_overAll_L2
      rw [if_neg (fun x => by have := (nIge (x := 4) 4 rfl (by omega) (by omega)).mp x; omega), h.1.o, grd_true, h.good, cal_s, if_neg (by decide), s1, cal_s]
      unfold hdB
      by_cases c0 : p = 0
      · rw [if_pos ((nIe (x := 0) 0 rfl (by omega) (by omega)).mpr c0), if_pos c0]; rfl
      rw [if_neg (fun x => c0 ((nIe (x := 0) 0 rfl (by omega) (by omega)).mp x)), if_neg c0]
      by_cases c1 : p = 1
      · rw [if_pos ((nIe (x := 1) 1 rfl (by omega) (by omega)).mpr c1), if_pos c1]; rfl
      rw [if_neg (fun x => c1 ((nIe (x := 1) 1 rfl (by omega) (by omega)).mp x)), if_neg c1]
      by_cases c2 : p = 2
      · rw [if_pos ((nIe (x := 2) 2 rfl (by omega) (by omega)).mpr c2), if_pos c2]; rfl
      · rw [if_neg (fun x => c2 ((nIe (x := 2) 2 rfl (by omega) (by omega)).mp x)), if_neg c2]; rfl
    have h8 : hdB p < 256 := by unfold hdB; by_cases c0 : p = 0 <;> by_cases c1 : p = 1 <;> by_cases c2 : p = 2 <;> simp [c0, c1, c2]
    rw [hd]
    unfold pHd fn_X16_overAll_B51 fn_X16_overAll_B74
    rw [nI_1]
    cases e : rBy b len p with
    | error x =>
      rw [e] at s2
      have s2' : UF sh n z1 ku b len x.1 x.2 := s2
      obtain ⟨z2, t1, t2, t3⟩ := s2'.e2 (F := F) (by omega) (g := g) (by omega) (nI (p + 1))
      rw [s2'.good, cal_s, if_pos rfl]
      exact ⟨z2, ⟨t1, t2⟩, (mon s3).trans (t3.mono (by simp) (fun j hj => by simp at hj ⊢; omega)), fun ⟨q, x⟩ => by cases x⟩
    | ok x =>
      rw [e] at s2
      obtain ⟨e1, e2⟩ := rBy_ok e
      subst e2
      have s2' : US sh n z1 ku b len (p + 1) := s2
      have b8 := (h.1.2.2.2.2 p e1).2
      rw [s2'.good, cal_s, if_neg (by decide), s2'.1.byte e1, cal_s, ok_bq]
      by_cases c : b p = hdB p
      · rw [if_pos (by rw [c]), if_neg (show ¬ (b p ≠ hdB p) from fun x => x c)]
        obtain ⟨z2, v1, v2, v3⟩ := ih (p + 1) g z1 (by omega) (by omega) s2'
        exact ⟨z2, v1, (mon s3).trans v2, fun x => (s3.w (by simp)).trans (v3 x)⟩
      · obtain ⟨z2, t1, t2, t3⟩ := s2'.fail (F := F) (w := 1) (q := p) (by omega) (by omega)
        have t1' : fn_X16_fail F sh n z1 ku 1 (nI p) = some (z2, ()) := t1
        obtain ⟨z3, y1, y2, y3⟩ := t2.e2 (F := F) (by omega) (g := g) (by omega) (nI (p + 1))
        rw [if_neg (fun x => c ((nI_ij (by omega) (by omega)).mp x)), t1', cal_s, if_pos (show b p ≠ hdB p from c)]
        exact ⟨z3, ⟨y1, y2⟩, (mon (s3.trans t3)).trans (y3.mono (by simp) (fun j hj => by simp at hj ⊢; omega)), fun ⟨q, x⟩ => by cases x⟩
end
