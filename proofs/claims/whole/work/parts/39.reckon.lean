/-! what reckoning gives -/
def rk (o : Int32) (A B : Nat) : Option Nat := if o = 24 then some (A + B) else if o = 25 then (if B ≤ A then some (A - B) else none) else if o = 26 then some (A * B) else if B = 0 then none else if o = 27 then some (A / B) else some (A % B)
theorem clr_t {F : Nat} {sh : Nat → Nat × Nat} {n w ka kb kr : Nat} {z : St} (W : WM sh n z.2.2 w ka kb kr) (hF : 64 < F) : ∃ g, (∀ i, i < 33 → g i = 0) ∧ fn_X17_clear F sh n z w = some (sr z kr g, ()) := by
  obtain ⟨g, h2, h3⟩ := clr_n (F := F) W 33 0 (F - 34) (z.1 kr) rfl (fun i hi => absurd hi (by omega))
  rw [show F - 34 + 33 + 1 = F by omega, sr_id] at h3
  refine ⟨g, h2, ?_⟩
  unfold fn_X17_clear
  exact h3
theorem reckM_t {F : Nat} {sh : Nat → Nat × Nat} {n w ka kb kr : Nat} {z : St} (W : WM sh n z.2.2 w ka kb kr) (hF : 200 < F) (o bits : Int32) (ah al bh bl : Int64) : ∃ z' r, fn_X17_reckon F sh n z w o ah al bh bl bits = some (z', r) ∧ (∀ k, k ≠ ka → k ≠ kb → k ≠ kr → z'.1 k = z.1 k) ∧ z'.2.2 = z.2.2 ∧ (∀ k, k ≠ w → z'.2.1 k = z.2.1 k) ∧ ((r = 1 ∧ ∃ X, rk o (V2 ah al) (V2 bh bl) = some X ∧ X < 2 ^ bb2 bits ∧ V2 (z'.2.1 w 3) (z'.2.1 w 4) = X) ∨ (r = 0 ∧ ∀ X, rk o (V2 ah al) (V2 bh bl) = some X → ¬ X < 2 ^ bb2 bits)) := by
  obtain ⟨d1, d2, d3, d4, d5, d6, d7, d8, d9, d10, d11, d12, d13, d14⟩ := id W
  obtain ⟨ga, a1, a2⟩ := lay_t (F := F) (z := z) d3 d4 (by omega) ah al
  obtain ⟨gb, b1, b2⟩ := lay_t (F := F) (z := sr z ka ga) d5 d6 (by omega) bh bl
  obtain ⟨g0, c1, c2⟩ := clr_t (F := F) (z := sr (sr z ka ga) kb gb) W (by omega)
  have W8 : WM sh n (sr (sr (sr z ka ga) kb gb) kr g0).2.2 w ka kb kr := W
  have ha : ∀ i, i < 16 → (sr (sr (sr z ka ga) kb gb) kr g0).1 ka i = nI (dg (V2 ah al) i) := fun i hi => by
    rw [sr_o d13, sr_o d12, sr_s]
    exact a1 i hi
  have hb : ∀ i, i < 16 → (sr (sr (sr z ka ga) kb gb) kr g0).1 kb i = nI (dg (V2 bh bl) i) := fun i hi => by
    rw [sr_o d14, sr_s]
    exact b1 i hi
  have hr : ∀ i, i < 33 → (sr (sr (sr z ka ga) kb gb) kr g0).1 kr i = 0 := fun i hi => by
    rw [sr_s]
    exact c1 i hi
  have fr8 : ∀ k, k ≠ ka → k ≠ kb → k ≠ kr → (sr (sr (sr z ka ga) kb gb) kr g0).1 k = z.1 k := fun k h1 h2 h3 => by rw [sr_o h3, sr_o h2, sr_o h1]
  have l8 : (sr (sr (sr z ka ga) kb gb) kr g0).2.1 = z.2.1 := rfl
  have q8 : (sr (sr (sr z ka ga) kb gb) kr g0).2.2 = z.2.2 := rfl
  have hA := V2_lt ah al
  have hB := V2_lt bh bl
  unfold fn_X17_reckon
  rw [grd_t (okO_of d1 d2), lnk_t d9, cal_t a2, lnk_t (show (sr z ka ga).2.2 w 1 = some kb from d10), cal_t b2, cal_t c2]
  generalize sr (sr (sr z ka ga) kb gb) kr g0 = z8 at *
  unfold rk
  by_cases o1 : o = 24
  · rw [if_pos o1, if_pos o1]
    obtain ⟨z', r, e1, e2, e3, e4, e5⟩ := addM_t (F := F) (bits := bits) W8 (by omega) hA hB ha hb hr
    rw [cal_t e1, grd_t (by rcases e5 with ⟨h, -⟩ | ⟨h, -⟩ <;> rw [h] <;> decide)]
    refine ⟨z', r, rfl, fun k h1 h2 h3 => (e2 k h3).trans (fr8 k h1 h2 h3), e3.trans q8, fun k hk => (e4 k hk).trans (by rw [l8]), ?_⟩
    rcases e5 with ⟨h, h1, h2⟩ | ⟨h, h1⟩
    · exact Or.inl ⟨h, _, rfl, h1, h2⟩
    · exact Or.inr ⟨h, fun X hX => by cases hX; exact h1⟩
  · rw [if_neg o1, if_neg o1]
    by_cases o2 : o = 25
    · rw [if_pos o2, if_pos o2, cal_t (cmpM_t ah al bh bl)]
      by_cases q : V2 ah al < V2 bh bl
      · rw [if_pos q, if_pos (show (-1 : Int32) < 0 by decide), if_neg (show ¬ V2 bh bl ≤ V2 ah al by omega)]
        exact ⟨z8, 0, rfl, fr8, q8, fun _ _ => by rw [l8], Or.inr ⟨rfl, fun X hX => by cases hX⟩⟩
      · rw [if_neg q, if_neg (show ¬ (if V2 ah al = V2 bh bl then (0 : Int32) else 1) < 0 by split <;> decide), if_pos (show V2 bh bl ≤ V2 ah al by omega)]
        obtain ⟨z', r, e1, e2, e3, e4, e5⟩ := subM_t (F := F) (bits := bits) W8 (by omega) hA (show V2 bh bl ≤ V2 ah al by omega) ha hb hr
        rw [cal_t e1]
        rcases e5 with ⟨h, h1, h2⟩ | ⟨h, h1⟩
        · subst h
          rw [if1]
          exact ⟨z', 1, rfl, fun k h1 h2 h3 => (e2 k h3).trans (fr8 k h1 h2 h3), e3.trans q8, fun k hk => (e4 k hk).trans (by rw [l8]), Or.inl ⟨rfl, _, rfl, h1, h2⟩⟩
        · subst h
          rw [if0]
          exact ⟨z', 0, rfl, fun k h1 h2 h3 => (e2 k h3).trans (fr8 k h1 h2 h3), e3.trans q8, fun k hk => (e4 k hk).trans (by rw [l8]), Or.inr ⟨rfl, fun X hX => by cases hX; exact h1⟩⟩
    · rw [if_neg o2, if_neg o2]
      by_cases o3 : o = 26
      · rw [if_pos o3, if_pos o3]
        obtain ⟨z', r, e1, e2, e3, e4, e5⟩ := mulM_t (F := F) (bits := bits) W8 (by omega) hA hB ha hb hr
        rw [cal_t e1, grd_t (by rcases e5 with ⟨h, -⟩ | ⟨h, -⟩ <;> rw [h] <;> decide)]
        refine ⟨z', r, rfl, fun k h1 h2 h3 => (e2 k h3).trans (fr8 k h1 h2 h3), e3.trans q8, fun k hk => (e4 k hk).trans (by rw [l8]), ?_⟩
        rcases e5 with ⟨h, h1, h2⟩ | ⟨h, h1⟩
        · exact Or.inl ⟨h, _, rfl, h1, h2⟩
        · exact Or.inr ⟨h, fun X hX => by cases hX; exact h1⟩
      · rw [if_neg o3, if_neg o3]
        have hz0 : (bh ||| bl = 0) ↔ V2 bh bl = 0 := by
          rw [N_eq0, N_or, Nat.or_eq_zero_iff]
          unfold V2
          omega
        by_cases q : bh ||| bl = 0
        · rw [if_pos q, if_pos (hz0.mp q)]
          exact ⟨z8, 0, rfl, fr8, q8, fun _ _ => by rw [l8], Or.inr ⟨rfl, fun X hX => by cases hX⟩⟩
        · have qn : ¬ V2 bh bl = 0 := fun e => q (hz0.mpr e)
          rw [if_neg q, if_neg qn]
          have go : ∀ x0 : Int32, ∃ z' r, fn_X17_reckon_B107 F sh n w bits z8 x0 = some (z', r) ∧ (∀ k, k ≠ ka → k ≠ kb → k ≠ kr → z'.1 k = z.1 k) ∧ z'.2.2 = z.2.2 ∧ (∀ k, k ≠ w → z'.2.1 k = z.2.1 k) ∧ ((r = 1 ∧ (if x0 = 0 then V2 ah al % V2 bh bl else V2 ah al / V2 bh bl) < 2 ^ bb2 bits ∧ V2 (z'.2.1 w 3) (z'.2.1 w 4) = (if x0 = 0 then V2 ah al % V2 bh bl else V2 ah al / V2 bh bl)) ∨ (r = 0 ∧ ¬ (if x0 = 0 then V2 ah al % V2 bh bl else V2 ah al / V2 bh bl) < 2 ^ bb2 bits)) := by
            intro x0
            obtain ⟨z', r, e1, e2, e3, e4, e5⟩ := divM_t (F := F) (x0 := x0) (bits := bits) W8 hF hA hB (Nat.pos_of_ne_zero qn) ha hb
            unfold fn_X17_reckon_B107
            rw [cal_t e1]
            rcases e5 with ⟨h, h1⟩ | ⟨h, h1⟩
            · subst h
              rw [if1]
              exact ⟨z', 1, rfl, fun k h1 h2 h3 => (by rw [e2]; exact fr8 k h1 h2 h3), e3.trans q8, fun k hk => (e4 k hk).trans (by rw [l8]), Or.inl ⟨rfl, h1⟩⟩
            · subst h
              rw [if0]
              exact ⟨z', 0, rfl, fun k h1 h2 h3 => (by rw [e2]; exact fr8 k h1 h2 h3), e3.trans q8, fun k hk => (e4 k hk).trans (by rw [l8]), Or.inr ⟨rfl, h1⟩⟩
          by_cases o4 : o = 27
          · rw [if_pos o4, if_pos o4]
            obtain ⟨z', r, e1, e2, e3, e4, e5⟩ := go 1
            refine ⟨z', r, e1, e2, e3, e4, ?_⟩
            rw [if1] at e5
            rcases e5 with ⟨h, h1, h2⟩ | ⟨h, h1⟩
            · exact Or.inl ⟨h, _, rfl, h1, h2⟩
            · exact Or.inr ⟨h, fun X hX => by cases hX; exact h1⟩
          · rw [if_neg o4, if_neg o4]
            obtain ⟨z', r, e1, e2, e3, e4, e5⟩ := go 0
            refine ⟨z', r, e1, e2, e3, e4, ?_⟩
            rw [if0] at e5
            rcases e5 with ⟨h, h1, h2⟩ | ⟨h, h1⟩
            · exact Or.inl ⟨h, _, rfl, h1, h2⟩
            · exact Or.inr ⟨h, fun X hX => by cases hX; exact h1⟩
