/-! THE REFERENCE'S ROOT -/
theorem fl_sg : ∀ S : List Plc, (S.map (fun x => [x])).flatten = S
  | [] => rfl
  | x :: S => by
    rw [List.map_cons, List.flatten_cons, fl_sg S]
    rfl
def FRr (z z' : St) : Prop := z'.2.2 = z.2.2 ∧ (∀ k, k ≠ 337 → ¬ (372 ≤ k ∧ k ≤ 384) → z'.1 k = z.1 k) ∧ (∀ j, j ≠ 14 → z'.1 337 j = z.1 337 j) ∧ ∀ k, ¬ (372 ≤ k ∧ k ≤ 384) → k ≠ 421 → k ≠ 422 → z'.2.1 k = z.2.1 k
theorem FRr.rfl' {z : St} : FRr z z := ⟨rfl, fun _ _ _ => rfl, fun _ _ => rfl, fun _ _ _ _ => rfl⟩
theorem FRr.trans {z z1 z2 : St} (h : FRr z z1) (h' : FRr z1 z2) : FRr z z2 := ⟨h'.1.trans h.1, fun k a b => (h'.2.1 k a b).trans (h.2.1 k a b), fun j hj => (h'.2.2.1 j hj).trans (h.2.2.1 j hj), fun k a b c => (h'.2.2.2 k a b c).trans (h.2.2.2 k a b c)⟩
theorem FLv.fr {z z' : St} (h : FLv z z') : FRr z z' := ⟨h.1, fun k a b => h.2.1 k a (by omega) (by omega) (by omega) (by omega) (by omega), h.2.2.1, fun k a _ _ => h.2.2.2.1 k (by omega) (by omega) (by omega)⟩
theorem FPt.fr {z z' : St} (h : FPt z z') : FRr z z' := ⟨h.1, fun k _ b => (h.2 k (by omega)).1, fun j _ => by rw [(h.2 337 (by omega)).1], fun k a _ _ => (h.2 k (by omega)).2⟩
theorem FHs.fr {z z' : St} {kd : Nat} (h : FHs z z' kd) (hk : kd = 421 ∨ kd = 422) : FRr z z' := ⟨h.1, fun k a b => h.2.1 k a (by omega) (by omega), h.2.2.1, fun k a b c => h.2.2.2 k (by omega) (by omega) (by omega)⟩
theorem RRw.of {z z' : St} {i : Nat} {x : Plc} (h : RRw z i x) (a : z'.1 379 = z.1 379) (b : z'.1 381 = z.1 381) (c : z'.2.1 377 = z.2.1 377) (d : z'.2.1 378 = z.2.1 378) (e : z'.2.1 380 = z.2.1 380) : RRw z' i x := by
  unfold RRw
  rw [a, b, c, d, e]
  exact h
theorem RSt.fh {z z' : St} {S : List Plc} {kd : Nat} (h : RSt z S) (f : FHs z z' kd) (hk : kd = 421 ∨ kd = 422) : RSt z' S := ⟨by rw [f.2.1 376 (by decide) (by decide) (by decide)]; exact h.1, h.2.1, fun i x hx => (h.2.2 i x hx).of (f.2.1 379 (by decide) (by decide) (by decide)) (f.2.1 381 (by decide) (by decide) (by decide)) (f.2.2.2 377 (by decide) (by decide) (by omega)) (f.2.2.2 378 (by decide) (by decide) (by omega)) (f.2.2.2 380 (by decide) (by decide) (by omega))⟩
section
variable {F n : Nat} {sh : Nat → Nat × Nat} {z z1 : St} {S : List Plc} {P : Plc → Prop}
theorem all_t (hF : 700 ≤ F) (hL : Lay sh n z) (h : RSt z S) (sk : SrK S) : ∃ z', fn_X14_all F sh n z 376 = some (z', ()) ∧ FLv z z' ∧ (S ≠ [] → ∀ k, k < 4 → z'.2.1 382 k = trD ndH lfP 256 S k) := by
  have l256 := h.2.1
  have kw : KWd z S := ⟨l256, fun i x hx => (h.2.2 i x hx).1⟩
  have key : ∀ m i g z1, i + m = S.length → m < g → FLv z z1 → z1.1 376 9 = nI S.length → (∀ j x, j < i → S[j]? = some x → z1.1 383 j = nI j ∧ z1.1 384 j = 1 ∧ ∀ k, k < 4 → z1.2.1 382 (4 * j + k) = lfP x k) → ∃ z2, fn_X14_all_L10 F sh n 376 g z1 (nI i) = fn_X14_all_L86 F sh n 376 F z2 (-1) 0 ∧ FLv z z2 ∧ z2.1 376 9 = nI S.length ∧ (∀ j x, j < S.length → S[j]? = some x → z2.1 383 j = nI j ∧ z2.1 384 j = 1 ∧ ∀ k, k < 4 → z2.2.1 382 (4 * j + k) = lfP x k) := by
    intro m
    induction m with
    | zero =>
      intro i g z1 h1 h2 fl e9 nd
      obtain ⟨g, rfl⟩ : ∃ q, g = q + 1 := ⟨g - 1, by omega⟩
      have e : i = S.length := by omega
      subst e
      exact ⟨z1, by rw [fn_X14_all_L10, e9, if_pos ((nI_leW (by omega) (by omega)).mpr (Nat.le_refl _))], fl, e9, nd⟩
    | succ m ih =>
      intro i g z1 h1 h2 fl e9 nd
      obtain ⟨g, rfl⟩ : ∃ q, g = q + 1 := ⟨g - 1, by omega⟩
      have l1 : Lay sh n z1 := hL.of fl.1
      have hx : S[i]? = some (S[i]'(by omega)) := List.getElem?_eq_getElem (by omega)
      generalize S[i]'(by omega) = x at hx
      have rr := h.2.2 i x hx
      have l0 : Lay sh n (si (si z1 383 i (nI i)) 384 i 1) := l1.of rfl
      obtain ⟨y1, a1, w1⟩ := wm_beg (F := F) l0
      obtain ⟨y2, a2, w2, _⟩ := w1.add (F := F) (by simp) (x := 0) (c := 0) rfl
      obtain ⟨y3, a3, w3⟩ := w2.four (F := F) (by omega) l0 377 (4 * i) 1024 (by decide) rfl (by omega) (by omega) (d := x.1) (fun k hk => by rw [si_2, si_2, fl.2.2.2.1 377 (by decide) (by decide) (by decide)]; exact rr.1 k hk) (by simp)
      obtain ⟨y4, a4, w4⟩ := w3.four (F := F) (by omega) l0 378 (4 * i) 1024 (by decide) rfl (by omega) (by omega) (d := x.2.2) (fun k hk => by rw [si_2, si_2, fl.2.2.2.1 378 (by decide) (by decide) (by decide)]; exact rr.2.1 k hk) (by simp [List.length_append, qB_len])
      obtain ⟨y5, b1, b2, b3, b4⟩ := khs_t (F := F) (by omega) l0 w4 (by simp [List.length_append, qB_len]) (i := i) (by omega)
      have f5 : FLv z1 y5 := ⟨b2.1, fun k q1 q2 q3 q4 q5 q6 => by rw [b2.2.1 k q1 q2 q3, si_ok q6, si_ok q5], fun j hj => by rw [b2.2.2.1 j hj, si_ok (by decide), si_ok (by decide)], fun k q1 q2 q3 => b2.2.2.2 k q1 q2 q3, fun j _ => by rw [b2.2.1 376 (by decide) (by decide) (by decide), si_ok (by decide), si_ok (by decide)]⟩
      have z383 : y5.1 383 = (si (si z1 383 i (nI i)) 384 i 1).1 383 := b2.2.1 383 (by decide) (by decide) (by decide)
      have z384 : y5.1 384 = (si (si z1 383 i (nI i)) 384 i 1).1 384 := b2.2.1 384 (by decide) (by decide) (by decide)
      obtain ⟨z2, c1, c2⟩ := ih (i + 1) g y5 (by omega) (by omega) (fl.trans f5) (by rw [b2.2.1 376 (by decide) (by decide) (by decide), si_ok (by decide), si_ok (by decide)]; exact e9) (fun j y hj hy => by
        rw [z383, z384]
        by_cases w : j = i
        · subst w
          rw [hx] at hy
          have := Option.some.inj hy
          subst this
          refine ⟨by rw [si_ok (by decide), si_ss], si_ss, fun k hk => ?_⟩
          rw [b3 k hk]
          rfl
        · obtain ⟨q1, q2, q3⟩ := nd j y (by omega) hy
          refine ⟨by rw [si_ok (by decide), si_oj w]; exact q1, by rw [si_oj w, si_ok (by decide)]; exact q2, fun k hk => ?_⟩
          rw [b4 _ (by omega)]
          exact q3 k hk)
      refine ⟨z2, ?_, c2⟩
      have oi : okI (nI i) 256 = true := okI_nI (by omega) (by omega)
      have ci : (nI i).toNatClampNeg = i := nI_clamp (by omega)
      have r1 := w1.lay l0
      have r2 := w2.lay l0
      have r3 := w3.lay l0
      have l383 : Lay sh n (si z1 383 i (nI i)) := l1.of rfl
      rw [fn_X14_all_L10, e9, if_neg (fun e => by have := (nI_leW (a := S.length) (b := i) (by omega) (by omega)).mp e; omega), l1.2.2 376 7 383 rfl, lnk_s, lay_a l1 383 101 256 (by decide) rfl, oi, grd_true, ci, lt_t, l383.2.2 376 8 384 rfl, lnk_s, lay_a l1 384 101 256 (by decide) rfl, oi, grd_true, lt_t, l0.2.2 376 10 372 rfl, lnk_s, (b_digr l0).1, grd_true, a1, cal_s, r1.2.2 376 10 372 rfl, lnk_s, (b_digr r1).1, grd_true, a2, cal_s, (b_roots r2).2.1, lnk_s, show (4 : Int32) * nI i = nI (4 * i) from pk_mul 4 i, a3, cal_s, (b_roots r3).2.2.1, lnk_s, a4, cal_s, b1, cal_s, nI_1]
      exact c1
  obtain ⟨z2, a1, a2, a3, a4⟩ := key S.length 0 F (si z 376 9 (nI S.length)) (by omega) (by omega) ⟨rfl, fun k _ _ _ q _ _ => si_ok q, fun j _ => by rw [si_ok (by decide)], fun _ _ _ _ => rfl, fun j hj => si_oj hj⟩ si_ss (fun j x hj => absurd hj (by omega))
  have l2 : Lay sh n z2 := hL.of a2.1
  obtain ⟨L, b1, b2, b3⟩ := all_86 (F := F) hF l2 (kw.fl a2) sk (by rw [a2.2.2.2.2 5 (by decide)]; exact h.1) S.length 0 F 0 (by omega) (by omega) (by omega) (fun j x y hj => absurd hj (by omega))
  obtain ⟨z3, G, c1, c2, c3, c4, c5⟩ := lvl_a (F := F) hF l2 (kw.fl a2) L F z2 (S.map (fun x => [x])) b1 (by omega) FLv.rfl' (by rw [List.length_map]; exact a3) (by rw [List.length_map]; exact l256) (fun i d hd => by
    rw [List.getElem?_map] at hd
    cases ex : S[i]? with
    | none => rw [ex] at hd; cases hd
    | some x =>
      rw [ex] at hd
      have : [x] = d := Option.some.inj hd
      subst this
      obtain ⟨q1, q2, q3⟩ := a4 i x (List.getElem?_eq_some_iff.mp ex).1 ex
      exact ⟨⟨i, x, q1, ex, by simp⟩, q2, by simp, fun k hk => by rw [trD_1]; exact q3 k hk⟩) ⟨by
    refine List.pairwise_map.mpr (List.pairwise_iff_getElem.mpr (fun i j hi hj hij x y hx hy => ?_))
    rw [List.mem_singleton.mp hx, List.mem_singleton.mp hy]
    have ad := b3 i _ _ (List.getElem?_eq_getElem hi) (List.getElem?_eq_getElem (by omega : i + 1 < S.length))
    have le : kyN S[i + 1] ≤ kyN S[j] := by
      by_cases w : i + 1 = j
      · subst w; exact Nat.le_refl _
      · exact Nat.le_of_lt (List.pairwise_iff_getElem.mp sk (i + 1) j (by omega) hj (by omega))
    have := cut_m (L := L) le
    omega, fun g hg => by
    obtain ⟨x, _, ex⟩ := List.mem_map.mp hg
    subst ex
    exact ⟨fun a b ha hb => by rw [List.mem_singleton.mp ha, List.mem_singleton.mp hb], by simp⟩⟩ (fl_sg S)
  refine ⟨z3, ?_, a2.trans c2, fun ne k hk => ?_⟩
  · unfold fn_X14_all
    rw [(b_roots hL).1, grd_true, lt_t, h.1]
    refine Eq.trans a1 (Eq.trans b2 c1)
  · have := (c3 0 S (one_g c4 c5 ne)).2.2.2 k hk
    rw [Nat.mul_zero, Nat.zero_add] at this
    exact this
/-- the reference's state between two places -/
def RTs (sh : Nat → Nat × Nat) (n : Nat) (z0 z : St) (S : List Plc) (P : Plc → Prop) : Prop := FRr z0 z ∧ RSt z S ∧ SrQ P S ∧ WBm sh n z z [] ∧ ∀ y, P y → PkO y
theorem rt_put (hF : 400 ≤ F) {z0 y3 y6 : St} (hL : Lay sh n z0) (h : RTs sh n z0 z S P) (h256 : S.length < 256) (f3 : FHs z y3 421) (f6 : FHs y3 y6 422) {x : Plc} (px : PkO x) (k3 : ∀ k, k < 4 → y3.2.1 421 k = x.1 k) (k6 : ∀ k, k < 4 → y6.2.1 422 k = x.2.2 k) (w6 : WBm sh n y6 y6 []) : ∃ z' S', fn_X14_put F sh n y6 376 421 422 (nI x.2.1.1) x.2.1.2.1 (nI (rnm x)) = some (z', ()) ∧ RTs sh n z0 z' S' (fun y => P y ∨ y = x) ∧ S'.length ≤ S.length + 1 := by
  obtain ⟨h1, h2, h3, h4, h5⟩ := h
  have fr := h1.trans ((f3.fr (.inl rfl)).trans (f6.fr (.inr rfl)))
  have l6 : Lay sh n y6 := hL.of fr.1
  obtain ⟨z', S', a1, a2, a3, a4, a5⟩ := put_r (F := F) (x := x) hF l6 ((h2.fh f3 (.inl rfl)).fh f6 (.inr rfl)) h3 h5 px h256 (fun k hk => by rw [f6.2.2.2 421 (by decide) (by decide) (by decide)]; exact k3 k hk) k6
  refine ⟨z', S', a1, ⟨fr.trans a2.fr, a3, a4, ⟨?_, rfl, fun _ _ _ _ => rfl, fun _ _ => rfl⟩, fun y hy => ?_⟩, a5⟩
  · obtain ⟨⟨i1, i2, i3, i4⟩, _⟩ := w6
    exact ⟨by rw [a2.1]; exact i1, by rw [(a2.2 372 (by omega)).1]; exact i2, i3, fun i hi => by rw [(a2.2 373 (by omega)).1]; exact i4 i hi⟩
  · rcases hy with w | w
    · exact h5 y w
    · rw [w]; exact px
end
