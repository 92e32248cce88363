/-! THE CLASS'S PROGRAM: what it answers of a picture -/
def rowF (M : MP) (g : Nat) : Nat := if g < M.2.2.2.2.length then g else 64 + (g - M.2.2.2.2.length)
def offF (M : MP) (g : Nat) : Nat := if g < M.2.2.2.2.length then (flS M.1 ++ flC M.2.2.1 ++ M.2.2.2.1.map (fun e => e.2)).length + (flG (M.2.2.2.2.take g)).length else (flS M.1).length + (flC (M.2.2.1.take (g - M.2.2.2.2.length))).length
/-- a list's lists, one after the other -/
theorem flat_at : ∀ (ls : List (List Ty)) (s i : Nat), s < ls.length → i < (ls.getD s []).length → (ls.take s).flatten.length + i < ls.flatten.length ∧ ls.flatten.getD ((ls.take s).flatten.length + i) [] = (ls.getD s []).getD i []
  | [], s, i, h, _ => absurd h (by simp)
  | t :: ts, 0, i, _, hi => by
    have hi' : i < t.length := hi
    rw [List.flatten_cons]
    show ([] : List Ty).length + i < _ ∧ (t ++ ts.flatten).getD (([] : List Ty).length + i) [] = t.getD i []
    rw [show ([] : List Ty).length + i = i by show 0 + i = i; omega, List.length_append]
    refine ⟨by omega, ?_⟩
    rw [List.getD_eq_getElem?_getD, List.getD_eq_getElem?_getD, List.getElem?_append_left hi']
  | t :: ts, s + 1, i, h, hi => by
    have ih := flat_at ts s i (by simpa using h) hi
    rw [List.take_succ_cons, List.flatten_cons, List.flatten_cons, List.length_append, List.length_append]
    refine ⟨by omega, ?_⟩
    rw [List.getD_eq_getElem?_getD, List.getElem?_append_right (by omega), ← List.getD_eq_getElem?_getD, show t.length + ((ts.take s).flatten).length + i - t.length = ((ts.take s).flatten).length + i by omega]
    exact ih.2
theorem map_gd {α β : Type} (f : α → β) {l : List α} {d : α} {e : β} {s : Nat} (h : s < l.length) : (l.map f).getD s e = f (l.getD s d) := by
  rw [List.getD_eq_getElem?_getD, List.getElem?_map, getD_s (d := d) h]; rfl
theorem ap_l {α : Type} {l m : List α} {d : α} {i : Nat} (h : i < l.length) : (l ++ m).getD i d = l.getD i d := by
  rw [List.getD_eq_getElem?_getD, List.getD_eq_getElem?_getD, List.getElem?_append_left h]
theorem ap_r {α : Type} {l m : List α} {d : α} (i : Nat) : (l ++ m).getD (l.length + i) d = m.getD i d := by
  rw [List.getD_eq_getElem?_getD, List.getElem?_append_right (by omega), ← List.getD_eq_getElem?_getD, Nat.add_sub_cancel_left]
section
variable {F n : Nat} {sh : Nat → Nat × Nat} {z z' : St} {kp kb len : Nat} {b : Nat → Nat} {M : MP} {J : Bool} {r : Ex Nat}
/-- a function's types, in the order takes, gives, further locals -/
def tysF (M : MP) (g : Nat) : List Ty := if g < M.2.2.2.2.length then (M.2.2.2.2.getD g dGP).2.2.1 ++ ((M.2.2.2.2.getD g dGP).2.2.2.1 ++ (M.2.2.2.2.getD g dGP).2.2.2.2.1) else (M.2.2.1.getD (g - M.2.2.2.2.length) dCP).2.1 ++ (M.2.2.1.getD (g - M.2.2.2.2.length) dCP).2.2
theorem tysF_at {g i : Nat} (hg : g < M.2.2.2.2.length + M.2.2.1.length) (hi : i < (tysF M g).length) : offF M g + i < (allT M).length ∧ (allT M).getD (offF M g + i) [] = (tysF M g).getD i [] := by
  unfold tysF at hi ⊢
  unfold offF
  by_cases c : g < M.2.2.2.2.length
  · rw [if_pos c] at hi ⊢
    rw [if_pos c]
    have e := flat_at (M.2.2.2.2.map (fun g => g.2.2.1 ++ (g.2.2.2.1 ++ g.2.2.2.2.1))) g i (by rw [List.length_map]; exact c) (by rw [map_gd (d := dGP) _ c]; exact hi)
    rw [map_gd (d := dGP) _ c, ← List.map_take] at e
    have e' : (flG (M.2.2.2.2.take g)).length + i < (flG M.2.2.2.2).length ∧ (flG M.2.2.2.2).getD ((flG (M.2.2.2.2.take g)).length + i) [] = ((M.2.2.2.2.getD g dGP).2.2.1 ++ ((M.2.2.2.2.getD g dGP).2.2.2.1 ++ (M.2.2.2.2.getD g dGP).2.2.2.2.1)).getD i [] := e
    unfold allT
    generalize flS M.1 ++ flC M.2.2.1 ++ M.2.2.2.1.map (fun e => e.2) = T0
    rw [List.length_append, Nat.add_assoc]
    refine ⟨by omega, ?_⟩
    rw [ap_r]
    exact e'.2
  · rw [if_neg c] at hi ⊢
    rw [if_neg c]
    have k : g - M.2.2.2.2.length < M.2.2.1.length := by omega
    have e := flat_at (M.2.2.1.map (fun c => c.2.1 ++ c.2.2)) (g - M.2.2.2.2.length) i (by rw [List.length_map]; exact k) (by rw [map_gd (d := dCP) _ k]; exact hi)
    rw [map_gd (d := dCP) _ k, ← List.map_take] at e
    have e' : (flC (M.2.2.1.take (g - M.2.2.2.2.length))).length + i < (flC M.2.2.1).length ∧ (flC M.2.2.1).getD ((flC (M.2.2.1.take (g - M.2.2.2.2.length))).length + i) [] = ((M.2.2.1.getD (g - M.2.2.2.2.length) dCP).2.1 ++ (M.2.2.1.getD (g - M.2.2.2.2.length) dCP).2.2).getD i [] := e
    have al : allT M = flS M.1 ++ (flC M.2.2.1 ++ (M.2.2.2.1.map (fun e => e.2) ++ flG M.2.2.2.2)) := by unfold allT; simp only [List.append_assoc]
    rw [al, List.length_append, List.length_append, Nat.add_assoc]
    refine ⟨by omega, ?_⟩
    rw [ap_r, ap_l e'.1]
    exact e'.2
theorem CPo.fCol (h : CPo sh n z kp b len M) {g c : Nat} {ic : Int32} (ec : ic = nI c) (hg : g < M.2.2.2.2.length + M.2.2.1.length) (hc : c < 9) : fn_X5_functionColumn F sh n z kp (nI g) ic = some (z, z.1 (kp + 4) (9 * rowF M g + c)) := by
  subst ec
  obtain ⟨a1, a2, a3, a4⟩ := h
  obtain ⟨p0, p1, p2, p3, p4, p5, p6, p7, p8⟩ := b_prog a1 a2
  have l1 := a4.2.2.1.1
  have l2 := a4.2.2.2.2.1
  unfold fn_X5_functionColumn
  rw [if_neg (fun y => by have := (nIlt (x := 0) 0 rfl (by omega) (by omega)).mp y; omega), p0, grd_true, a3.1.2.2.2.1, a3.1.2.2.2.2.1, nI_add, if_pos ((nI_ltI (by omega) (by omega)).mpr hg)]
  unfold fn_X5_functionColumn_B40 rowF
  rw [p4, lnk_s]
  by_cases d : g < M.2.2.2.2.length
  · have ei : nI g * 9 + nI c = nI (9 * g + c) := by rw [show (9 : Int32) = nI 9 from rfl, pk_mul, nI_add, Nat.mul_comm]
    rw [if_neg (fun y => by have := (nI_leI (by omega) (by omega)).mp y; omega), if_pos d, lnk_s, ei, p8, okI_nI (by omega) (by omega), grd_true, nI_clamp (by omega)]
  · have es : (64 : Int32) + nI g - nI M.2.2.2.2.length = nI (64 + (g - M.2.2.2.2.length)) := by
      rw [show (64 : Int32) + nI g = nI (64 + g) from nI_add 64 g, pk_sub (by omega), show 64 + g - M.2.2.2.2.length = 64 + (g - M.2.2.2.2.length) by omega]
    have ei : nI (64 + (g - M.2.2.2.2.length)) * 9 + nI c = nI (9 * (64 + (g - M.2.2.2.2.length)) + c) := by rw [show (9 : Int32) = nI 9 from rfl, pk_mul, nI_add, Nat.mul_comm]
    rw [if_pos ((nI_leI (by omega) (by omega)).mpr (by omega)), if_neg d, es, ei, p8, okI_nI (by omega) (by omega), grd_true, nI_clamp (by omega)]
/-- what a function's row says -/
theorem CPo.row (hb : ∀ q, q < len → b q < 256) (h : CPo sh n z kp b len M) {g : Nat} (hg : g < M.2.2.2.2.length + M.2.2.1.length) : z.1 (kp + 4) (9 * rowF M g + 0) = nI (fnOf (mdOf b M) g).1 ∧ z.1 (kp + 4) (9 * rowF M g + 1) = nI (offF M g) ∧ z.1 (kp + 4) (9 * rowF M g + 2) = nI (tksOf (mdOf b M) g).length ∧ z.1 (kp + 4) (9 * rowF M g + 3) = nI (gvsOf (mdOf b M) g).length ∧ z.1 (kp + 4) (9 * rowF M g + 4) = nI (locL (mdOf b M) g).length ∧ z.1 (kp + 4) (9 * rowF M g + 7) = nI (if g < fsOf (mdOf b M) then (mdOf b M).1.1 else whoOf (mdOf b M) g / 256) ∧ z.1 (kp + 4) (9 * rowF M g + 8) = nI (if g < fsOf (mdOf b M) then g else whoOf (mdOf b M) g % 256) ∧ tysF M g = tksOf (mdOf b M) g ++ (gvsOf (mdOf b M) g ++ locL (mdOf b M) g) := by
  have pk := h.2.2.2
  have tm := h.2.2.1
  unfold rowF offF tysF
  by_cases c : g < M.2.2.2.2.length
  · have e : fnOf (mdOf b M) g = (b (M.2.2.2.2.getD g dGP).1, (M.2.2.2.2.getD g dGP).2.2.1, (M.2.2.2.2.getD g dGP).2.2.2.1, (M.2.2.2.2.getD g dGP).2.2.2.2.1) := by
      show (if g < M.2.2.2.2.length then _ else _) = _
      rw [if_pos c]
    unfold tksOf gvsOf locL
    rw [e, if_pos c, if_pos c, if_pos c, if_pos (show g < fsOf (mdOf b M) from c), if_pos (show g < fsOf (mdOf b M) from c)]
    obtain ⟨r0, r1, r2, r3, r4, r5, r6, r7, r8⟩ := tm.2.2.2.2.1 g c
    have gp := pk.2.2.2.2.2 _ (getD_m (d := dGP) c)
    refine ⟨?_, r1, r2, r3, r4, r7, r8, rfl⟩
    rw [r0]
    show nI (M.2.2.2.2.getD g dGP).2.1 = nI (b (M.2.2.2.2.getD g dGP).1)
    rw [gp.2.1]
  · have k : g - M.2.2.2.2.length < M.2.2.1.length := by omega
    have e : fnOf (mdOf b M) g = (b ((M.2.2.1.getD (g - M.2.2.2.2.length) dCP).1 + 3), (M.2.2.1.getD (g - M.2.2.2.2.length) dCP).2.1, (M.2.2.1.getD (g - M.2.2.2.2.length) dCP).2.2, []) := by
      show (if g < M.2.2.2.2.length then _ else _) = _
      rw [if_neg c]
    unfold tksOf gvsOf locL
    rw [e, if_neg c, if_neg c, if_neg c, if_neg (show ¬ g < fsOf (mdOf b M) from c), if_neg (show ¬ g < fsOf (mdOf b M) from c)]
    obtain ⟨r0, r1, r2, r3, r4, r6, r7, r8⟩ := tm.2.2.2.1 (g - M.2.2.2.2.length) k
    have cp := pk.2.2.1.2 _ (getD_m (d := dCP) k)
    have b8 : b ((M.2.2.1.getD (g - M.2.2.2.2.length) dCP).1 + 2) < 256 := hb _ (by have := cp.1; omega)
    refine ⟨r0, r1, r2, r3, r4, ?_, ?_, by simp⟩
    · rw [r7]
      show _ = nI ((256 * shB b (M.2.2.1.getD (g - M.2.2.2.2.length) dCP).1 + b ((M.2.2.1.getD (g - M.2.2.2.2.length) dCP).1 + 2)) / 256)
      congr 1; omega
    · rw [r8]
      show _ = nI ((256 * shB b (M.2.2.1.getD (g - M.2.2.2.2.length) dCP).1 + b ((M.2.2.1.getD (g - M.2.2.2.2.length) dCP).1 + 2)) % 256)
      congr 1; omega
end
