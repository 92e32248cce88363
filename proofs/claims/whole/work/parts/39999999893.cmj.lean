/-! THE CLASS'S MACHINE: one becomes its parts (22) -/
theorem HC.dead {z : St} {H : Hp} {u : Nat} {s : Int32} (h : HC z H u s) {x : Nat} (hr : rootH H x) : HC z (upH H x (0, 0, 0, [])) u s := by
  obtain ⟨h1, h2, h3, h4, h5⟩ := h
  refine ⟨h1, h2, h3, h4, fun i hi => ?_⟩
  by_cases c : i = x
  · subst c; rw [upH_s] at hi; exact absurd rfl hi
  · rw [upH_n c] at hi ⊢
    obtain ⟨a1, a2, a3, a4, a5⟩ := h5 i hi
    refine ⟨a1, a2, a3, a4, fun e he => ?_⟩
    have : e ≠ x := fun q => hr i hi (by rw [← q]; exact he)
    rw [upH_n this]
    exact a5 e he
section
variable {F n : Nat} {sh : Nat → Nat × Nat} {z z' : St} {pk : Nat → Nat} {kt : Nat} {H : Hp} {m : Nat} {sl0 : Int32} {fr : Nat → Fm} {cs cl : Nat → Nat → Nat} {nf g lim : Nat}
/-- above the stack's height -/
theorem CM.over (h : CM sh n z pk kt H m sl0 fr cs cl nf g lim) {k : Nat} (hk : (fr (nf - 1)).2.2.1.1 ≤ k) (v : Int32) : CM sh n (si z 103 ((nf - 1) * 64 + k) v) pk kt H m sl0 fr cs cl nf g lim ∧ FrC z (si z 103 ((nf - 1) * 64 + k) v) := by
  have kk := h.2.2.2.2.1.2.2.1
  refine ⟨h.mov rfl (fun j _ _ => by simp [si_1]) rfl (by funext j; simp [si_1, show kt ≠ 103 by omega]) (h.2.1.mv (fun i a b => ⟨by funext j; simp [si_1, show i ≠ 103 by omega], rfl⟩)) ⟨by simp [si_1]; exact h.2.2.1.1, h.2.2.1.2.1, h.2.2.1.2.2.1, fun d hd => ?_⟩, ⟨rfl, fun i _ _ c => ⟨by funext j; simp [si_1, show i ≠ 103 by omega], rfl⟩, fun j _ => by simp [si_1], fun _ _ => rfl⟩⟩
  obtain ⟨b1, b2, b3, b4, b5, b6, b7⟩ := h.2.2.1.2.2.2 d hd
  have key : ∀ i, i ≠ 103 → (si z 103 ((nf - 1) * 64 + k) v).1 i = z.1 i := fun i hi => by funext j; simp [si_1, hi]
  unfold CFd
  rw [key 99 (by decide), key 100 (by decide), key 101 (by decide), key 102 (by decide)]
  refine ⟨b1, b2, b3, b4, b5, fun i hi => ?_, b7⟩
  have : d * 64 + i ≠ (nf - 1) * 64 + k := by
    by_cases q : d = nf - 1
    · subst q; omega
    · have : d + 1 ≤ nf - 1 := by omega
      have := Nat.mul_le_mul_right 64 this
      omega
  simp [si_1, this]
  exact b6 i hi
/-- the height grows over what was put there -/
theorem CM.grow (h : CM sh n z pk kt H m sl0 fr cs cl nf g lim) {c : Nat} {w : Nat → Nat} (hc : (fr (nf - 1)).2.2.1.1 + c ≤ 64) (hw : ∀ i, i < c → z.1 103 ((nf - 1) * 64 + ((fr (nf - 1)).2.2.1.1 + i)) = nI (w i)) (q : Nat → Sl) : CM sh n (si z 101 (nf - 1) (nI ((fr (nf - 1)).2.2.1.1 + c))) pk kt H m sl0 (setF fr (nf - 1) (setN (fr (nf - 1)) c q)) (rtC cs (nf - 1) (fr (nf - 1)).2.2.1.1 c w) cl nf g lim ∧ FrC z (si z 101 (nf - 1) (nI ((fr (nf - 1)).2.2.1.1 + c))) := by
  have kk := h.2.2.2.2.1.2.2.1
  obtain ⟨b1, b2, b3, b4, b5, b6, b7, b8⟩ := h.2.2.1.2.2.2 (nf - 1) (by have := h.2.2.1.2.1; omega)
  refine ⟨h.mov rfl (fun j _ _ => by simp [si_1]) rfl (by funext j; simp [si_1, show kt ≠ 101 by omega]) (h.2.1.mv (fun i a b => ⟨by funext j; simp [si_1, show i ≠ 101 by omega], rfl⟩)) (h.2.2.1.set (by simp [si_1]) (fun i d i1 i2 hd => by simp [si_1, hd]; intro e; rw [e]) rfl (fun j hj => by simp [si_1]) (fun j hj => by simp [si_1]) (fun d k hd => ⟨by simp [rtC, hd], rfl⟩) (by show (fr (nf - 1)).2.2.1.1 + c ≤ 64; omega) rfl (by simp [si_1]; exact b3) (by simp [si_1]; exact b4) (by simp [si_1, setN]) (fun k hk => ?_) (fun k s hk => ?_) (fun k h4 hk => (b8 k h4 hk).imp (fun w => by simp [si_1]; exact w) (fun w => w))), ⟨rfl, fun i _ _ c => ⟨by funext j; simp [si_1, show i ≠ 101 by omega], rfl⟩, fun j _ => by simp [si_1], fun _ _ => rfl⟩⟩
  · have hk' : k < (fr (nf - 1)).2.2.1.1 + c := hk
    by_cases ck : (fr (nf - 1)).2.2.1.1 ≤ k
    · have e := hw (k - (fr (nf - 1)).2.2.1.1) (by omega)
      rw [show (fr (nf - 1)).2.2.1.1 + (k - (fr (nf - 1)).2.2.1.1) = k by omega] at e
      have : rtC cs (nf - 1) (fr (nf - 1)).2.2.1.1 c w (nf - 1) k = w (k - (fr (nf - 1)).2.2.1.1) := by unfold rtC; rw [if_pos ⟨rfl, ck, hk'⟩]
      rw [this, ← e]; simp [si_1]
    · have : rtC cs (nf - 1) (fr (nf - 1)).2.2.1.1 c w (nf - 1) k = cs (nf - 1) k := by unfold rtC; rw [if_neg (fun x => ck x.2.1)]
      rw [this, ← b6 k (by omega)]; simp [si_1]
  · obtain ⟨w1, w2⟩ := b7 k s hk
    exact ⟨w1, by simp [si_1]; exact w2⟩
theorem CM.scL {ws : List Nat} {x a : Nat} (ea : (fr (nf - 1)).2.2.1.1 = a) (h64 : a + ws.length ≤ 64) (hx : inn (H x).1) (nd : ws.Nodup) (al : (H x).2.2.2 = ws.reverse) (own : ∀ i, (H i).1 ≠ 0 → i ≠ x → ∀ w, w ∈ ws → w ∉ (H i).2.2.2) (q : Nat → Sl) : ∀ r f z0, r ≤ ws.length → r < f → CM sh n z0 pk kt (upH H x (setC (H x) (ws.take r).reverse)) m sl0 fr cs cl nf g lim → (∀ i (hi : i < ws.length), r ≤ i → z0.1 103 ((nf - 1) * 64 + (a + i)) = nI ws[i]) → ∃ z', fn_X4_scatter_L59 F sh n 87 (nI a) (nI ws.length) (nI x) f z0 (nI r - 1) = some (z', ()) ∧ CM sh n z' pk kt (upH H x (setC (H x) [])) m sl0 (setF fr (nf - 1) (setN (fr (nf - 1)) ws.length q)) (rtC cs (nf - 1) a ws.length (fun i => ws.getD i 0)) cl nf g lim ∧ FrC z0 z' := by
  intro r
  induction r with
  | zero =>
    intro f z0 _ hf h hw
    obtain ⟨f', rfl⟩ : ∃ q, f = q + 1 := ⟨f - 1, by omega⟩
    obtain ⟨t1, t2, t3⟩ := h.t0
    obtain ⟨w1, w2⟩ := h.grow (c := ws.length) (w := fun i => ws.getD i 0) (by omega) (fun i hi => by rw [ea, hw i hi (by omega)]; simp [List.getD, hi]) q
    rw [ea] at w1 w2
    refine ⟨_, ?_, w1, w2⟩
    have oi : okA sh n 101 101 (nI (nf - 1)) = true := by rw [lay_a h.1 101 101 32 (by decide) rfl]; exact okI_nI (by have := h.2.2.1.2.2.1; have := h.2.2.1.2.1; omega) (by omega)
    unfold fn_X4_scatter_L59
    rw [if_pos (by decide), h.1.2.2 87 9 101 rfl, lnk_s, t1, oi, grd_true, t3, nI_add, lt_t]
  | succ r ih =>
    intro f z0 hr hf h hw
    obtain ⟨f', rfl⟩ : ∃ q, f = q + 1 := ⟨f - 1, by omega⟩
    have n32 := h.2.2.1.2.2.1
    have hv1 : (upH H x (setC (H x) (ws.take (r + 1)).reverse)) x = setC (H x) (ws.take (r + 1)).reverse := upH_s _ _ _
    have eL : (ws.take (r + 1)).reverse = ws[r] :: (ws.take r).reverse := by
      rw [List.take_succ_eq_append_getElem (by omega), List.reverse_append]
      rfl
    have hk0 : (H x).1 ≠ 0 := by unfold inn at hx; omega
    have a1 : ((upH H x (setC (H x) (ws.take (r + 1)).reverse)) x).1 ≠ 0 := by rw [hv1]; exact hk0
    have a2 : inn ((upH H x (setC (H x) (ws.take (r + 1)).reverse)) x).1 := by rw [hv1]; exact hx
    have a3 : ((upH H x (setC (H x) (ws.take (r + 1)).reverse)) x).2.2.2 = ws[r] :: (ws.take r).reverse := by rw [hv1]; exact eL
    have nt : ws[r] ∉ ws.take r := nd_take nd (by omega)
    have pt := detach_t (F := F) h.1 h.2.1 a1 a2 a3
    have pH := dt_H h.2.1 a1 a2 a3 (fun i hi ne => by rw [upH_n ne] at hi ⊢; exact own i hi ne _ (List.getElem_mem _)) (fun p => nt (List.mem_reverse.mp p))
    have eH : upH (upH H x (setC (H x) (ws.take (r + 1)).reverse)) x (setC ((upH H x (setC (H x) (ws.take (r + 1)).reverse)) x) (ws.take r).reverse) = upH H x (setC (H x) (ws.take r).reverse) := by
      rw [hv1, upH_2]
      rfl
    rw [eH] at pH
    obtain ⟨w1, w2⟩ := h.heap dt_fr pH
    obtain ⟨w3, w4⟩ := w1.over (k := a + r) (by omega) (nI ws[r])
    obtain ⟨z', q1, q2, q3⟩ := ih f' _ (by omega) (by omega) w3 (fun i hi ri => by
      by_cases c : i = r
      · subst c; simp [si_1]
      · have : (nf - 1) * 64 + (a + i) ≠ (nf - 1) * 64 + (a + r) := by omega
        have e := hw i hi (by omega)
        have f1 := (dt_fr (z := z0) (v := x) (c := ws[r]) (p := hd0 (ws.take r).reverse) (l := (ws.take r).reverse.length)).2 103 (by omega)
        simp only [si_1, if_pos, if_neg this]
        rw [f1.1]
        exact e)
    refine ⟨z', ?_, q2, (w2.trans w4).trans q3⟩
    have ei : nI (nf - 1) * 64 + nI a + (nI (r + 1) - 1) = nI ((nf - 1) * 64 + (a + r)) := by
      have e1 : nI (r + 1) - 1 = nI r := by have := pk_sub (a := r + 1) (b := 1) (by omega); rw [Nat.add_sub_cancel] at this; exact this
      rw [e1, show (64 : Int32) = nI 64 from rfl, pk_mul, nI_add, nI_add, Nat.add_assoc]
    have e1 : nI (r + 1) - 1 = nI r := by have := pk_sub (a := r + 1) (b := 1) (by omega); rw [Nat.add_sub_cancel] at this; exact this
    have oi : okA sh n 103 101 (nI ((nf - 1) * 64 + (a + r))) = true := by rw [lay_a h.1 103 101 2048 (by decide) rfl]; exact okI_nI (by omega) (by omega)
    have n0 : ¬ (nI (r + 1) - 1 < 0) := by
      rw [e1]
      apply Int32.not_lt.mpr
      exact nI_pos' (by omega)
    unfold fn_X4_scatter_L59
    rw [if_neg n0, h.1.2.2 87 11 103 rfl, lnk_s, h.1.2.2 87 1 88 rfl, lnk_s, (b_heap h.1).1, grd_true, pt, cal_s, h.2.2.1.1, ei, oi, grd_true, nI_clamp (by omega), lt_t, e1, show nI r + -1 = nI r - 1 by rw [Int32.sub_eq_add_neg]]
    exact q1
/-- 22 -/
theorem CM.scatter (hF : 300 ≤ F) (h : CM sh n z pk kt H m sl0 fr cs cl nf g lim) {ws : List Nat} {x : Nat} (h1 : 1 ≤ (fr (nf - 1)).2.2.1.1) (ex : cs (nf - 1) ((fr (nf - 1)).2.2.1.1 - 1) = x) (h64 : (fr (nf - 1)).2.2.1.1 - 1 + ws.length ≤ 64) (hx6 : (H x).1 = 6) (nd : ws.Nodup) (al : (H x).2.2.2 = ws.reverse) (own : ∀ i, (H i).1 ≠ 0 → i ≠ x → ∀ w, w ∈ ws → w ∉ (H i).2.2.2) (hr : rootH H x) (q : Nat → Sl) : ∃ z', fn_X4_scatter F sh n z 87 (nI ws.length) = some (z', ()) ∧ CM sh n z' pk kt (upH H x (0, 0, 0, [])) m sl0 (setF fr (nf - 1) (setN (setH (fr (nf - 1)) ((fr (nf - 1)).2.2.1.1 - 1)) ws.length q)) (rtC cs (nf - 1) ((fr (nf - 1)).2.2.1.1 - 1) ws.length (fun i => ws.getD i 0)) cl nf g lim ∧ FrC z z' := by
  have hx : inn (H x).1 := .inl hx6
  have hx0 : (H x).1 ≠ 0 := by unfold inn at hx; omega
  obtain ⟨z1, p1, p2, p3⟩ := h.popOf (F := F) h1 (k := 6) (x := 6) rfl (by rw [ex]; exact hx6) (by omega)
  rw [ex] at p1
  obtain ⟨t1, t2, t3⟩ := p2.t0
  obtain ⟨b1, b2, b3, b4, b5, b6, b7⟩ := p2.2.2.1.2.2.2 (nf - 1) (by have := h.2.2.1.2.1; omega)
  rw [setF_s] at b5
  have i5 := p2.2.1.i1 hx0
  have ir := (p2.2.1.inr hx0 hx).1
  have eH : upH H x (setC (H x) (ws.take ws.length).reverse) = H := by
    funext j
    rw [List.take_length, ← al]
    by_cases c : j = x
    · subst c; rw [upH_s]; rfl
    · rw [upH_n c]
  obtain ⟨z', q1, q2, q3⟩ := CM.scL (F := F) (fr := setF fr (nf - 1) (setH (fr (nf - 1)) ((fr (nf - 1)).2.2.1.1 - 1))) (ws := ws) (x := x) (a := (fr (nf - 1)).2.2.1.1 - 1) (by rw [setF_s, setH_T]) h64 hx nd al own q ws.length F z1 (Nat.le_refl _) (by omega) (by rw [eH]; exact p2) (fun i hi hc => absurd hc (by omega))
  rw [setF_s, setF_2] at q2
  have rr : rootH (upH H x (setC (H x) [])) x := by
    intro i hi
    by_cases c : i = x
    · subst c; rw [upH_s]; simp [setC]
    · rw [upH_n c] at hi ⊢; exact hr i hi
  have D := q2.2.1.dead rr
  rw [upH_2] at D
  obtain ⟨w1, w2⟩ := q2.heap (z' := z') Fr.rfl' D
  refine ⟨z', ?_, w1, p3.trans q3⟩
  have oi : okA sh n 101 101 (nI (nf - 1)) = true := by rw [lay_a h.1 101 101 32 (by decide) rfl]; exact okI_nI (by have := h.2.2.1.2.2.1; have := h.2.2.1.2.1; omega) (by omega)
  have o91 : okA sh n 91 102 (nI x) = true := by rw [lay_a h.1 91 102 21600 (by decide) rfl]; exact i5.1
  have n64 : ¬ ((64 : Int32) < nI ((fr (nf - 1)).2.2.1.1 - 1) + nI ws.length) := by
    rw [nI_add]
    apply Int32.not_lt.mpr
    exact (nI_leI (b := 64) (by omega) (by omega)).mpr h64
  have ll : (H x).2.2.2.length = ws.length := by rw [al, List.length_reverse]
  unfold fn_X4_scatter
  rw [(b_mach h.1).1, grd_true, p1, cal_s, p2.1.2.2 87 9 101 rfl, lnk_s, t1, oi, grd_true, t3, lt_t, b5, setH_T, if_neg n64, p2.1.2.2 87 1 88 rfl, lnk_s, (b_heap h.1).1, grd_true, (b_heap p2.1).2.2.2.1, lnk_s, o91, grd_true, i5.2, ir, ll, if_pos (by rw [nI_l (by omega)]), lt_t]
  exact q1
end
