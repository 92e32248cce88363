/-! THE CLASS'S MACHINE: parts become one (21, 52) -/
theorem upH_2 (H : Hp) (i : Nat) (x y : Nd) : upH (upH H i x) i y = upH H i y := by
  funext j
  simp only [upH]
  by_cases c : j = i
  · simp [c]
  · simp [c]
theorem nd_take {ws : List Nat} (nd : ws.Nodup) {j : Nat} (hj : j < ws.length) : ws[j] ∉ ws.take j := by
  intro q
  obtain ⟨i, hi, e⟩ := List.mem_iff_getElem.mp q
  rw [List.getElem_take] at e
  rw [List.length_take] at hi
  exact (List.pairwise_iff_getElem.mp nd i j (by omega) hj (by omega)) e
section
variable {F n : Nat} {sh : Nat → Nat × Nat} {z z' : St} {pk : Nat → Nat} {kt : Nat} {H : Hp} {m : Nat} {sl0 : Int32} {fr : Nat → Fm} {cs cl : Nat → Nat → Nat} {nf g lim : Nat}
theorem CM.gaL {ws : List Nat} {k a : Nat} (hk : inn k) (hm0 : (H m).1 = 0) (hw : ∀ i (hi : i < ws.length), cs (nf - 1) (a + i) = ws[i]) (ha : (fr (nf - 1)).2.2.1.1 = a + ws.length) (h64 : a < 64) (nd : ws.Nodup) (al : ∀ w, w ∈ ws → (H w).1 ≠ 0) (rt : ∀ w, w ∈ ws → rootH H w) (s : Sl) : ∀ r j f z0, j + r = ws.length → r < f → CM sh n z0 pk kt (upH H m (k, 0, 0, (ws.take j).reverse)) (m + 1) sl0 fr cs cl nf g lim → ∃ z', fn_X4_gather_L45 F sh n (nI a) (nI ws.length) 87 (nI m) f z0 (nI (a + j)) = some (z', ()) ∧ CM sh n z' pk kt (upH H m (k, 0, 0, ws.reverse)) (m + 1) sl0 (setF fr (nf - 1) (pshV (setH (fr (nf - 1)) a) s)) (up2 cs (nf - 1) a m) cl nf g lim ∧ FrC z0 z' := by
  intro r
  induction r with
  | zero =>
    intro j f z0 ej hf h
    obtain ⟨f', rfl⟩ : ∃ q, f = q + 1 := ⟨f - 1, by omega⟩
    have b1 := (h.2.2.1.2.2.2 (nf - 1) (by have := h.2.2.1.2.1; omega)).1
    have ejj : j = ws.length := by omega
    subst ejj
    rw [List.take_length] at h
    obtain ⟨t1, t2, t3⟩ := h.t0
    have C1 : CM sh n (si z0 101 (nf - 1) (nI a)) pk kt (upH H m (k, 0, 0, ws.reverse)) (m + 1) sl0 (setF fr (nf - 1) (setH (fr (nf - 1)) a)) cs cl nf g lim := by
      have kk := h.2.2.2.2.1.2.2.1
      exact h.mov rfl (fun j _ _ => by simp [si_1]) rfl (by funext j; simp [si_1, show kt ≠ 101 by omega]) (h.2.1.mv (fun k a b => ⟨by funext j; simp [si_1, show k ≠ 101 by omega], rfl⟩)) (h.2.2.1.pop (by omega))
    have f1 : FrC z0 (si z0 101 (nf - 1) (nI a)) := ⟨rfl, fun k _ _ c => ⟨by funext j; simp [si_1, show k ≠ 101 by omega], rfl⟩, fun j _ => by simp [si_1], fun _ _ => rfl⟩
    obtain ⟨z', q1, q2, q3⟩ := C1.push (F := F) (by rw [setF_s, setH_T]; exact h64) s m
    rw [setF_s, setF_2, setH_T] at q2
    refine ⟨z', ?_, q2, f1.trans q3⟩
    have oi : okA sh n 101 101 (nI (nf - 1)) = true := by rw [lay_a h.1 101 101 32 (by decide) rfl]; exact okI_nI (by have := h.2.2.1.2.2.1; have := h.2.2.1.2.1; omega) (by omega)
    unfold fn_X4_gather_L45
    rw [nI_add, if_pos ((nI_leI (by omega) (by omega)).mpr (Nat.le_refl _)), h.1.2.2 87 9 101 rfl, lnk_s, t1, oi, grd_true, t3, lt_t, q1, cal_s]
  | succ r ih =>
    intro j f z0 ej hf h
    obtain ⟨f', rfl⟩ : ∃ q, f = q + 1 := ⟨f - 1, by omega⟩
    have hj : j < ws.length := by omega
    obtain ⟨b1, b2, b3, b4, b5, b6, b7⟩ := h.2.2.1.2.2.2 (nf - 1) (by have := h.2.2.1.2.1; omega)
    have n32 := h.2.2.1.2.2.1
    have wm : ws[j] ∈ ws := List.getElem_mem hj
    have wn : ws[j] ≠ m := fun q => al _ wm (by rw [q]; exact hm0)
    have hv1 : (upH H m (k, 0, 0, (ws.take j).reverse)) m = (k, 0, 0, (ws.take j).reverse) := upH_s _ _ _
    have hk0 : k ≠ 0 := by unfold inn at hk; omega
    have a1 : ((upH H m (k, 0, 0, (ws.take j).reverse)) m).1 ≠ 0 := by rw [hv1]; exact hk0
    have a2 : inn ((upH H m (k, 0, 0, (ws.take j).reverse)) m).1 := by rw [hv1]; exact hk
    have a3 : ((upH H m (k, 0, 0, (ws.take j).reverse)) ws[j]).1 ≠ 0 := by rw [upH_n wn]; exact al _ wm
    have nt : ws[j] ∉ ws.take j := nd_take nd hj
    have a4 : rootH (upH H m (k, 0, 0, (ws.take j).reverse)) ws[j] := by
      intro i hi
      by_cases c : i = m
      · subst c
        rw [hv1]
        simp only [List.mem_reverse]
        exact nt
      · rw [upH_n c] at hi ⊢
        exact rt _ wm i hi
    have a5 : ((upH H m (k, 0, 0, (ws.take j).reverse)) m).2.2.2.length < 256 := by
      rw [hv1]
      simp only [List.length_reverse, List.length_take]
      omega
    have pt := prepend_t (F := F) h.1 h.2.1 a1 a2 a3
    have pH := pp_H h.2.1 a1 a2 a3 a4 a5
    have eH : upH (upH H m (k, 0, 0, (ws.take j).reverse)) m (setC ((upH H m (k, 0, 0, (ws.take j).reverse)) m) (ws[j] :: ((upH H m (k, 0, 0, (ws.take j).reverse)) m).2.2.2)) = upH H m (k, 0, 0, (ws.take (j + 1)).reverse) := by
      rw [hv1, upH_2]
      congr 1
      simp only [setC]
      rw [List.take_succ_eq_append_getElem hj, List.reverse_append]
      rfl
    rw [eH] at pH
    obtain ⟨w1, w2⟩ := h.heap pp_fr pH
    obtain ⟨z', q1, q2, q3⟩ := ih (j + 1) f' _ (by omega) (by omega) w1
    refine ⟨z', ?_, q2, w2.trans q3⟩
    have ei : nI (nf - 1) * 64 + nI (a + j) = nI ((nf - 1) * 64 + (a + j)) := by rw [show (64 : Int32) = nI 64 from rfl, pk_mul, nI_add]
    have oi : okA sh n 103 101 (nI ((nf - 1) * 64 + (a + j))) = true := by rw [lay_a h.1 103 101 2048 (by decide) rfl]; exact okI_nI (by omega) (by omega)
    have rv : z0.1 103 ((nf - 1) * 64 + (a + j)) = nI ws[j] := by rw [b6 (a + j) (by omega), hw j hj]
    unfold fn_X4_gather_L45
    rw [nI_add, if_neg (fun q => by have := (nI_leI (by omega) (by omega)).mp q; omega), h.1.2.2 87 1 88 rfl, lnk_s, h.1.2.2 87 11 103 rfl, lnk_s, h.2.2.1.1, ei, oi, grd_true, (b_heap h.1).1, grd_true, nI_clamp (by omega), rv, pt, cal_s, nI_1]
    exact q1
theorem CM.gather (hF : 300 ≤ F) (h : CM sh n z pk kt H m sl0 fr cs cl nf g lim) {ws : List Nat} {k a : Nat} (hk : k = 6 ∨ k = 7) (hm : m < 21600) (hw : ∀ i (hi : i < ws.length), cs (nf - 1) (a + i) = ws[i]) (ha : (fr (nf - 1)).2.2.1.1 = a + ws.length) (h64 : a < 64) (nd : ws.Nodup) (al : ∀ w, w ∈ ws → (H w).1 ≠ 0) (rt : ∀ w, w ∈ ws → rootH H w) (s : Sl) : ∃ z', fn_X4_gather F sh n z 87 (nI k) (nI ws.length) = some (z', ()) ∧ CM sh n z' pk kt (upH H m (k, 0, 0, ws.reverse)) (m + 1) sl0 (setF fr (nf - 1) (pshV (setH (fr (nf - 1)) a) s)) (up2 cs (nf - 1) a m) cl nf g lim ∧ FrC z z' := by
  have hi : inn k := by unfold inn; omega
  have hm0 : (H m).1 = 0 := by
    by_cases c : (H m).1 = 0
    · exact c
    · have := (h.2.1.lt c).2.1; omega
  obtain ⟨t1, t2, t3⟩ := h.t0
  obtain ⟨b1, b2, b3, b4, b5, b6, b7⟩ := h.2.2.1.2.2.2 (nf - 1) (by have := h.2.2.1.2.1; omega)
  have mk := make_t (F := F) (k := k) (x := 0) (y := 0) h.1 h.2.1.1 h.2.1.2.1 hm (by omega)
  have f1 : Fr 88 92 z (mkS z m (nI k) 0 0) := mk_fr
  have H1 : HC (mkS z m (nI k) 0 0) (upH H m (k, 0, 0, [])) (m + 1) sl0 := mk_H h.2.1 hm (by omega) rfl (fun _ => ⟨rfl, rfl, rfl⟩) (fun q => absurd hi q)
  obtain ⟨w1, w2⟩ := h.heap f1 H1
  obtain ⟨z', q1, q2, q3⟩ := CM.gaL (F := F) hi hm0 hw ha h64 nd al rt s ws.length 0 F _ (by omega) (by omega) w1
  refine ⟨z', ?_, q2, w2.trans q3⟩
  have oi : okA sh n 101 101 (nI (nf - 1)) = true := by rw [lay_a h.1 101 101 32 (by decide) rfl]; exact okI_nI (by have := h.2.2.1.2.2.1; have := h.2.2.1.2.1; omega) (by omega)
  have es : nI (fr (nf - 1)).2.2.1.1 - nI ws.length = nI a := by rw [pk_sub (by omega), ha, Nat.add_sub_cancel]
  unfold fn_X4_gather
  rw [(b_mach h.1).1, grd_true, h.1.2.2 87 9 101 rfl, lnk_s, t1, oi, grd_true, t3, b5, es, lt_t, if_pos (nI_pos' (by omega)), h.1.2.2 87 1 88 rfl, lnk_s, (b_heap h.1).1, grd_true, mk, cal_s]
  exact q1
end
