/-! THE CLASS'S READER: rounds found, and the reading as a whole -/
section
variable {F n : Nat} {sh : Nat → Nat × Nat} {z z' : St} {kp kb len : Nat} {b : Nat → Nat} {M : MP} {J : Bool} {r : Ex Nat}
theorem holL_ap (own : Nat) (ts : List Ty) (t : Ty) (x : Nat) : holL own (ts ++ [t]) x = (holL own ts x || (ownT own t == some x)) := by
  unfold holL
  rw [List.any_append]
  simp
theorem CPo.l24 (hF : 300 ≤ F) (hb : ∀ q, q < len → b q < 256) (hj : jM b M = none) {s : Nat} (hs : s < M.1.length) {ko : St → Int32 → Option (St × Unit)} : ∀ k i g z W, i + k = (M.1.getD s dSP).2.2.length → k < g → CPo sh n z kp b len M → z.2.2 60 2 = some kp → HW z (s + 1) W → (∀ x, x < 32 → W s x = holL M.1.length ((M.1.getD s dSP).2.2.take i) x) → ∃ z' W', fn_X6_findRound_L24 F sh n 60 (nI s) (nI M.1.length) ko g z (nI i) = ko z' (nI s + 1) ∧ HW z' (s + 1) W' ∧ (∀ x, x < 32 → W' s x = hA M s x) ∧ (∀ y, y < s → W' y = W y) ∧ FrHo z z' := by
  intro k
  induction k with
  | zero =>
    intro i g z W ei hg h e2 hW hs0
    obtain ⟨g, rfl⟩ : ∃ q, g = q + 1 := ⟨g - 1, by omega⟩
    have st := h.2.2.2.1.2 (M.1.getD s dSP) (getD_m hs)
    have f16 := st.2.2.2.2.2.1
    obtain ⟨p0, _⟩ := b_prog h.1 h.2.1
    unfold fn_X6_findRound_L24
    rw [e2, lnk_s, p0, grd_true, h.fields hs, cal_s, if_pos ((nI_leI (by omega) (by omega)).mpr (by omega))]
    refine ⟨z, W, rfl, hW, fun x hx => ?_, fun _ _ => rfl, FrHo.rfl'⟩
    rw [hs0 x hx, List.take_of_length_le (by omega)]; rfl
  | succ k ih =>
    intro i g z W ei hg h e2 hW hs0
    obtain ⟨g, rfl⟩ : ∃ q, g = q + 1 := ⟨g - 1, by omega⟩
    have l32 := h.2.2.2.1.1
    have st := h.2.2.2.1.2 (M.1.getD s dSP) (getD_m hs)
    have f16 := st.2.2.2.2.2.1
    have il : i < (M.1.getD s dSP).2.2.length := by omega
    have hk := isP_ne h.2.1
    obtain ⟨p0, _⟩ := b_prog h.1 h.2.1
    obtain ⟨r1, r2, r3⟩ := b_read h.1
    have ok1 : okA sh n 61 101 (nI s) = true := by rw [r3]; exact okI_nI (by omega) (by omega)
    have tb := h.tb hb hj hs il
    obtain ⟨en1, en2⟩ := endsC_t (F := F) (sh := sh) (n := n) (z := z) tb
    have tk : (M.1.getD s dSP).2.2.take (i + 1) = (M.1.getD s dSP).2.2.take i ++ [(M.1.getD s dSP).2.2.getD i []] := by
      rw [List.take_succ, getD_s (d := []) il]; rfl
    unfold fn_X6_findRound_L24 fn_X6_findRound_B83
    rw [e2, lnk_s, p0, grd_true, h.fields hs, cal_s, if_neg (fun y => by have := (nI_leI (by omega) (by omega)).mp y; omega), e2, lnk_s, p0, grd_true, h.field hs il, cal_s, lt_t, en1, cal_s, r2, lnk_s, ok1, grd_true, grd_true, lt_t, nI_1, nI_clamp (by omega)]
    have same : ownT M.1.length ((M.1.getD s dSP).2.2.getD i []) = none → ∃ z' W', fn_X6_findRound_L24 F sh n 60 (nI s) (nI M.1.length) ko g z (nI (i + 1)) = ko z' (nI s + 1) ∧ HW z' (s + 1) W' ∧ (∀ x, x < 32 → W' s x = hA M s x) ∧ (∀ y, y < s → W' y = W y) ∧ FrHo z z' := fun no => by
      refine ih (i + 1) g z W (by omega) (by omega) h e2 hW (fun x hx => ?_)
      rw [tk, holL_ap, no, hs0 x hx]
      simp
    cases es : endS ((M.1.getD s dSP).2.2.getD i []) with
    | none =>
      rw [show bI (none : Option Nat).isSome = 0 from rfl, if_pos rfl]
      exact same (by unfold ownT; rw [es])
    | some y =>
      rw [show bI (some y).isSome = 1 from rfl, if_neg (by decide), en2 y es]
      have y8 : y < 256 := by
        have rd := (AtL.nth (M.1.getD s dSP).2.2 _ i st.2.2.2.2.2.2 il).1
        have := (RdT.last rd es).2
        rw [← this]
        exact hb _ (by have := rd.2.2.1; have l2 := (RdT.last rd es).1; have : endL ((M.1.getD s dSP).1 + 2) ((M.1.getD s dSP).2.2.take i) + ((M.1.getD s dSP).2.2.getD i []).length ≤ len := rd.2.2.1; omega)
      by_cases c : M.1.length ≤ y
      · rw [if_pos ((nI_leI (by omega) (by omega)).mpr c)]
        exact same (by unfold ownT; rw [es]; show (if y < M.1.length then some y else none) = none; rw [if_neg (by omega)])
      · have ow : ownT M.1.length ((M.1.getD s dSP).2.2.getD i []) = some y := by unfold ownT; rw [es]; show (if y < M.1.length then some y else none) = some y; rw [if_pos (by omega)]
        rw [if_neg (fun q => c ((nI_leI (by omega) (by omega)).mp q))]
        have W2 : HW (si z 61 s (z.1 61 s ||| 1 <<< (nI y &&& 31))) (s + 1) (fun a x => if a = s then W s x || decide (x = y) else W a x) := by
          refine hW.set (fun x hx => ?_) (fun a ha x => ?_)
          · show _ = (if s = s then W s x || decide (x = y) else W s x)
            rw [if_pos rfl, ib_or, hW s (by omega) x hx, ib_one y (by omega) x hx]
          · show (if a = s then W s x || decide (x = y) else W a x) = W a x
            rw [if_neg ha]
        have f1 : FrHo z (si z 61 s (z.1 61 s ||| 1 <<< (nI y &&& 31))) := FrHo.si
        obtain ⟨z2, W', q1, q2, q3, q4, q5⟩ := ih (i + 1) g _ _ (by omega) (by omega) (h.fr f1.1 (fun k a b => f1.2 k (by omega))) e2 W2 (fun x hx => by
          show (if s = s then W s x || decide (x = y) else W s x) = _
          rw [if_pos rfl, tk, holL_ap, ow, hs0 x hx]
          congr 1
          rw [Bool.eq_iff_iff, decide_eq_true_iff, beq_iff_eq]
          constructor
          · intro e; rw [e]
          · intro e; cases e; rfl)
        refine ⟨z2, W', q1, q2, q3, fun a ha => ?_, f1.trans q5⟩
        rw [q4 a ha]
        funext x
        show (if a = s then W s x || decide (x = y) else W a x) = W a x
        rw [if_neg (by omega)]
theorem CPo.l10 (hF : 300 ≤ F) (hb : ∀ q, q < len → b q < 256) (hj : jM b M = none) : ∀ k s g z, s + k = M.1.length → k < g → CPo sh n z kp b len M → z.2.2 60 2 = some kp → HW z s (hA M) → ∃ z', fn_X6_findRound_L10 F sh n (nI M.1.length) 60 g z (nI s) = fn_X6_findRound_L97 F sh n (nI M.1.length) 60 F z' 0 ∧ HW z' M.1.length (hA M) ∧ FrHo z z' := by
  intro k
  induction k with
  | zero =>
    intro s g z ei hg h e2 hW
    obtain ⟨g, rfl⟩ : ∃ q, g = q + 1 := ⟨g - 1, by omega⟩
    have l32 := h.2.2.2.1.1
    unfold fn_X6_findRound_L10
    rw [if_pos ((nI_leI (by omega) (by omega)).mpr (by omega))]
    refine ⟨z, rfl, ?_, FrHo.rfl'⟩
    have : s = M.1.length := by omega
    rw [← this]; exact hW
  | succ k ih =>
    intro s g z ei hg h e2 hW
    obtain ⟨g, rfl⟩ : ∃ q, g = q + 1 := ⟨g - 1, by omega⟩
    have l32 := h.2.2.2.1.1
    have hk := isP_ne h.2.1
    obtain ⟨r1, r2, r3⟩ := b_read h.1
    have ok1 : okA sh n 61 101 (nI s) = true := by rw [r3]; exact okI_nI (by omega) (by omega)
    have f1 : FrHo z (si z 61 s 0) := FrHo.si
    have W0 : HW (si z 61 s 0) (s + 1) (fun a x => if a = s then false else hA M a x) := fun i hi x hx => by
      by_cases c : i = s
      · subst c
        rw [si_ss, ib_0]
        show false = (if i = i then false else _)
        rw [if_pos rfl]
      · rw [si_oj c, hW i (by omega) x hx]
        show _ = (if i = s then false else hA M i x)
        rw [if_neg c]
    have st := h.2.2.2.1.2 (M.1.getD s dSP) (getD_m (show s < M.1.length by omega))
    have f16 := st.2.2.2.2.2.1
    obtain ⟨z1, W', q1, q2, q3, q4, q5⟩ := CPo.l24 (F := F) hF hb hj (s := s) (by omega) (ko := fun z9 q2 => fn_X6_findRound_L10 F sh n (nI M.1.length) 60 g z9 q2) (M.1.getD s dSP).2.2.length 0 F (si z 61 s 0) _ (by omega) (by omega) (h.fr f1.1 (fun k a b => f1.2 k (by omega))) e2 W0 (fun x hx => by
      show (if s = s then false else _) = _
      rw [if_pos rfl]; rfl)
    have q1' : fn_X6_findRound_L24 F sh n 60 (nI s) (nI M.1.length) (fun z9 q2 => fn_X6_findRound_L10 F sh n (nI M.1.length) 60 g z9 q2) F (si z 61 s 0) 0 = fn_X6_findRound_L10 F sh n (nI M.1.length) 60 g z1 (nI s + 1) := q1
    unfold fn_X6_findRound_L10
    rw [if_neg (fun y => by have := (nI_leI (by omega) (by omega)).mp y; omega), r2, lnk_s, ok1, grd_true, lt_t, nI_clamp (by omega), q1', nI_1]
    have fz := f1.trans q5
    obtain ⟨z2, t1, t2, t3⟩ := ih (s + 1) g z1 (by omega) (by omega) (h.fr fz.1 (fun k a b => fz.2 k (by omega))) (by rw [fz.1]; exact e2) (fun i hi x hx => by
      rw [q2 i hi x hx]
      by_cases c : i = s
      · subst c; exact q3 x hx
      · rw [q4 i (by omega)]
        show (if i = s then false else hA M i x) = hA M i x
        rw [if_neg c])
    exact ⟨z2, t1, t2, fz.trans t3⟩
end
