/-! THE CLASS'S READER: the first pass, then the second -/
def KB0 (sh : Nat → Nat × Nat) (n : Nat) (z : St) (kp kb : Nat) (b : Nat → Nat) (len : Nat) : Prop := Lay sh n z ∧ isP kp ∧ z.2.2 60 2 = some kp ∧ z.2.2 kp 0 = some kb ∧ 513 ≤ kb ∧ z.1 kp 1 = nI len ∧ len ≤ 2048 ∧ ∀ p, p < len → ∃ v, rb sh n z kb (nI p) = some v ∧ v &&& 255 = nI (b p) ∧ b p < 256
abbrev FrRd (kp : Nat) (z z' : St) : Prop := FrKd kp [kp + 1, kp + 2, kp + 3, kp + 4, 61] [2, 4, 6, 8, 9, 11, 12, 13, 14] [0, 1, 3, 4, 5, 6, 7] z z'
/-- what both passes come to -/
def rd2 (b : Nat → Nat) (len : Nat) : Ex (MP × Nat) := match pAll b len with | .error e => .error e | .ok q => jg (jM b q.1) (.ok q)
section
variable {F n : Nat} {sh : Nat → Nat × Nat} {z z' : St} {kp kb len : Nat} {b : Nat → Nat} {J : Bool} {r : Ex Nat} {ks js hs : List Nat} {Jo : Option JI}
theorem KB.b0 (h : KB sh n z kp kb b len J) : KB0 sh n z kp kb b len := by
  obtain ⟨a1, a2, a3, a4, a5, a6, a7, a8, _⟩ := h
  exact ⟨a1, a2, a3, a4, a5, a6, a7, a8⟩
theorem KB0.b40 (hF : 1100 ≤ F) (h : KB0 sh n z kp kb b len) (e1 : z.1 60 1 = nI 0) (e0 : z.1 60 0 = nI 0) (ej : Jo.isSome = J) (hM : ∀ j, Jo = some j → ∃ q, pAll b len = .ok q ∧ j = jiOf q.1) (hj : ∀ m, jAll Jo = some m → z.1 kp 9 = nI m ∧ m < 256) (x : Int32) {ko : St → Int32 → Option (St × Int32)} : ∃ z', fn_X6_read_B40 F sh n 60 x ko z (bI J) = ko z' (x + 1) ∧ KX sh n z' kp kb b len J (cu (gAll b len Jo)) ∧ (∀ q, gAll b len Jo = .ok q → TMc z' kp b q.1) ∧ FrRd kp z z' := by
  obtain ⟨a1, a2, a3, a4, a5, a6, a7, a8⟩ := h
  have hk := isP_ne a2
  have oz : okZ (bI J) = true := by cases J <;> rfl
  have op := (b_prog a1 a2).1
  unfold fn_X6_read_B40 fn_X6_read_B144 fn_X5_clear
  rw [oz, grd_true, lt_t, lt_t, lt_t]
  have f1 : FrKd kp [] [] [3, 4, 5] z (si (si (si z 60 4 (bI J)) 60 3 0) 60 5 0) := ((FrKd.si60 (by omega) (by simp)).trans (FrKd.si60 (by omega) (by simp))).trans (FrKd.si60 (by omega) (by simp))
  have y4 : (si (si (si z 60 4 (bI J)) 60 3 0) 60 5 0).1 60 4 = bI J := by rw [si_oj (by omega), si_oj (by omega), si_ss]
  have y3 : (si (si (si z 60 4 (bI J)) 60 3 0) 60 5 0).1 60 3 = nI 0 := by rw [si_oj (by omega), si_ss]; rfl
  have y5 : (si (si (si z 60 4 (bI J)) 60 3 0) 60 5 0).1 60 5 = nI 0 := by rw [si_ss]; rfl
  have y1 : (si (si (si z 60 4 (bI J)) 60 3 0) 60 5 0).1 60 1 = nI 0 := by rw [si_oj (by omega), si_oj (by omega), si_oj (by omega)]; exact e1
  have y0 : (si (si (si z 60 4 (bI J)) 60 3 0) 60 5 0).1 60 0 = nI 0 := by rw [si_oj (by omega), si_oj (by omega), si_oj (by omega)]; exact e0
  generalize si (si (si z 60 4 (bI J)) 60 3 0) 60 5 0 = y at f1 y4 y3 y5 y1 y0
  have yl : y.2.2 60 2 = some kp := by rw [f1.1]; exact a3
  rw [yl, lnk_s, op, grd_true, grd_true, lt_t, lt_t, lt_t, lt_t, cal_s]
  have f2 : FrKd kp [] [2, 4, 6, 12] [] y (si (si (si (si y kp 2 0) kp 4 0) kp 6 0) kp 12 0) := (((FrKd.siP (by omega) (by simp)).trans (FrKd.siP (by omega) (by simp))).trans (FrKd.siP (by omega) (by simp))).trans (FrKd.siP (by omega) (by simp))
  have w4 : (si (si (si (si y kp 2 0) kp 4 0) kp 6 0) kp 12 0).1 kp 4 = nI 0 := by rw [si_oj (by omega), si_oj (by omega), si_ss]; rfl
  have w6 : (si (si (si (si y kp 2 0) kp 4 0) kp 6 0) kp 12 0).1 kp 6 = nI 0 := by rw [si_oj (by omega), si_ss]; rfl
  generalize si (si (si (si y kp 2 0) kp 4 0) kp 6 0) kp 12 0 = w at f2 w4 w6
  have fw : FrRd kp z w := (f1.mono (by simp) (by simp) (by simp)).trans (f2.mono (by simp) (by simp) (by simp))
  have kx : KX sh n w kp kb b len J (.ok 0) := by
    refine ⟨⟨a1.of fw.1, a2, by rw [fw.1]; exact a3, by rw [fw.1]; exact a4, a5, by rw [fw.2.2.2.1 1 (by simp)]; exact a6, a7, fun p hp => ?_, by rw [f2.2.2.2.2 4 (by simp)]; exact y4⟩, by rw [f2.2.2.2.2 3 (by simp)]; exact y3, Nat.zero_le _, by rw [f2.2.2.2.2 1 (by simp)]; exact y1, by rw [f2.2.2.2.2 0 (by simp)]; exact y0⟩
    rw [rb_fr (fw.2.1 kb (by omega) (by omega) (by simp; omega))]
    exact a8 p hp
  obtain ⟨z', s1, s2, s3, s4⟩ := kx.passT (F := F) hF ej hM (fun m y => by rw [f2.2.2.2.1 9 (by simp), f1.2.2.2.1 9 (by simp)]; exact hj m y) w4 w6 (by rw [f2.2.2.2.2 5 (by simp)]; exact y5) (K := fun z => ko z (x + 1))
  refine ⟨z', s1, s2, s3, fw.trans (s4.mono (by simp) (by simp) (by simp))⟩
theorem readC0 (hF : 1100 ≤ F) (h : KB0 sh n z kp kb b len) (e1 : z.1 60 1 = nI 0) (e0 : z.1 60 0 = nI 0) : ∃ z' J', fn_X6_read_L17 F sh n 60 F z 0 = fn_X6_read_B150 F sh n 60 z' ∧ KX sh n z' kp kb b len J' (cu (rd2 b len)) ∧ (∀ q, rd2 b len = .ok q → TMc z' kp b q.1) ∧ FrRd kp z z' := by
  obtain ⟨g, rfl⟩ : ∃ q, F = q + 3 := ⟨F - 3, by omega⟩
  obtain ⟨z1, a1, a2, a3, a4⟩ := h.b40 (F := g + 3) hF e1 e0 (Jo := none) (J := false) rfl (fun j y => by cases y) (fun m y => by cases y) 0 (ko := fun z9 q2 => fn_X6_read_L17 (g + 3) sh n 60 (g + 2) z9 q2)
  rw [gAll_0] at a2 a3
  have st : fn_X6_read_L17 (g + 3) sh n 60 (g + 3) z 0 = fn_X6_read_L17 (g + 3) sh n 60 (g + 2) z1 1 := by
    conv => lhs; unfold fn_X6_read_L17
    rw [if_neg (show ¬ (2 : Int32) ≤ 0 by decide), if_pos (show z.1 60 1 = 0 from e1), if_neg (show ¬ (0 : Int32) = 1 by decide)]
    exact a1
  rw [st]
  unfold rd2
  cases e : pAll b len with
  | error w =>
    rw [e] at a2
    have a2' : KX sh n z1 kp kb b len false (.error w) := a2
    refine ⟨z1, false, ?_, a2', fun q y => (by cases y), a4⟩
    conv => lhs; unfold fn_X6_read_L17
    rw [if_neg (show ¬ (2 : Int32) ≤ 1 by decide), if_neg a2'.ne0]
  | ok q =>
    rw [e] at a2
    have a2' : KX sh n z1 kp kb b len false (.ok q.2) := a2
    have t := a3 q e
    have pk := (pAll_p e).1
    obtain ⟨z2, b1, b2, b3, b4⟩ := a2'.1.b0.b40 (F := g + 3) hF a2'.2.2.2.1 a2'.2.2.2.2 (Jo := some (jiOf q.1)) (J := true) rfl (fun j y => by cases y; exact ⟨q, e, rfl⟩) (fun m y => by cases y; exact ⟨t.1.2.2.1, by have := pk.1.1; have := pk.2.1.1; show q.1.1.length + q.1.2.1.length < 256; omega⟩) 1 (ko := fun z9 q2 => fn_X6_read_L17 (g + 3) sh n 60 (g + 1) z9 q2)
    have gj : gAll b len (some (jiOf q.1)) = jg (jM b q.1) (.ok q) := gAll_j e
    rw [gj] at b2 b3
    refine ⟨z2, true, ?_, b2, b3, a4.trans b4⟩
    conv => lhs; unfold fn_X6_read_L17
    rw [if_neg (show ¬ (2 : Int32) ≤ 1 by decide), if_pos a2'.is0, if_pos rfl]
    have b1' : fn_X6_read_B40 (g + 3) sh n 60 1 (fun z9 q2 => fn_X6_read_L17 (g + 3) sh n 60 (g + 1) z9 q2) z1 1 = fn_X6_read_L17 (g + 3) sh n 60 (g + 1) z2 2 := b1
    rw [b1']
    conv => lhs; unfold fn_X6_read_L17
    rw [if_pos (show (2 : Int32) ≤ 2 by decide)]
end
