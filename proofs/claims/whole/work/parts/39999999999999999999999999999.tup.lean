/-! THE CLASS COLLECTS PLACES -/
theorem SrK.inj {S : List Plc} (h : SrK S) {x y : Plc} (hx : x ∈ S) (hy : y ∈ S) (e : kyN x = kyN y) : x = y := by
  obtain ⟨i, hi, ei⟩ := List.getElem_of_mem hx
  obtain ⟨j, hj, ej⟩ := List.getElem_of_mem hy
  have q := List.pairwise_iff_getElem.mp h
  rcases Nat.lt_trichotomy i j with c | c | c
  · have := q i j hi hj c; rw [ei, ej] at this; omega
  · subst c; rw [← ei, ← ej]
  · have := q j i hj hi c; rw [ei, ej] at this; omega
abbrev Ord : Type := List (Nat × Plc)
/-- rows of places -/
def CRw (z : St) (e : Nat × Plc) : Prop := (∀ k, k < 7 → z.2.1 78 (7 * e.1 + k) = rw7 e.2 k) ∧ ∀ k, k < 4 → z.2.1 79 (4 * e.1 + k) = lfP e.2 k
def CPl (z : St) (P : Plc → Prop) (O : Ord) : Prop := z.1 73 7 = nI O.length ∧ O.length ≤ 256 ∧ (∀ i e, O[i]? = some e → z.1 81 i = nI e.1) ∧ (∀ e, e ∈ O → e.1 < O.length ∧ P e.2 ∧ CRw z e) ∧ (∀ x, P x → ∃ c, (c, x) ∈ O) ∧ O.Pairwise (fun a b => rwN a.2 ≤ rwN b.2)
theorem CRw.of {z z' : St} {e : Nat × Plc} (h : CRw z e) (e1 : z'.2.1 78 = z.2.1 78) (e2 : z'.2.1 79 = z.2.1 79) : CRw z' e := by
  unfold CRw
  rw [e1, e2]
  exact h
/-- all but the order -/
def FOr (z z' : St) : Prop := z'.2 = z.2 ∧ (∀ k, k ≠ 73 → k ≠ 81 → z'.1 k = z.1 k) ∧ ∀ j, j ≠ 7 → z'.1 73 j = z.1 73 j
theorem FOr.fc {z z' : St} (h : FOr z z') : FCr z z' := ⟨by rw [h.1], fun k q => ⟨h.2.1 k (by omega) (by omega), by rw [h.1]⟩, h.2.2 1 (by decide)⟩
section
variable {F n : Nat} {sh : Nat → Nat × Nat} {z z1 z5 : St} {O : Ord} {c : Nat} {x : Plc} {P : Plc → Prop}
theorem ins_e (hL : Lay sh n z) (hc : O.length = c) (h256 : c < 256) (so : O.Pairwise (fun a b => rwN a.2 ≤ rwN b.2)) {p : Nat} (hp : p ≤ c) {z' : St} (f : FOr z z') (e7 : z'.1 73 7 = nI c) (a1 : ∀ i e, i < p → O[i]? = some e → z'.1 81 i = nI e.1) (a2 : ∀ i e, p ≤ i → O[i]? = some e → z'.1 81 (i + 1) = nI e.1) (b1 : ∀ e, e ∈ O.take p → rwN e.2 ≤ rwN x) (b2 : ∀ e, e ∈ O.drop p → rwN x ≤ rwN e.2) : ∃ (z'' : St) (O' : Ord), fn_X9_addPlace_B201 F sh n 73 z' (nI p) = some (z'', ()) ∧ FOr z z'' ∧ z''.1 73 7 = nI (c + 1) ∧ (∀ i e, O'[i]? = some e → z''.1 81 i = nI e.1) ∧ O'.length = c + 1 ∧ (∀ e, e ∈ O' ↔ e ∈ O ∨ e = (c, x)) ∧ O'.Pairwise (fun a b => rwN a.2 ≤ rwN b.2) := by
  have lz : Lay sh n z' := hL.of (by rw [f.1])
  have lt : (O.take p).length = p := by rw [List.length_take]; omega
  refine ⟨si (si z' 81 p (nI c)) 73 7 (nI (c + 1)), O.take p ++ (c, x) :: O.drop p, ?_, ⟨f.1, fun k k1 k2 => by rw [si_ok k1, si_ok k2]; exact f.2.1 k k1 k2, fun j hj => by rw [si_oj hj, si_ok (by decide)]; exact f.2.2 j hj⟩, si_ss, fun i e he => ?_, ?_, fun e => ?_, ?_⟩
  · unfold fn_X9_addPlace_B201
    rw [lz.2.2 73 6 81 rfl, lnk_s, lay_a lz 81 101 256 (by decide) rfl, okI_nI (by omega) (by omega), grd_true, nI_clamp (by omega), e7, lt_t, si_ok (by decide), e7, nI_1, lt_t]
  · rw [si_ok (by decide)]
    by_cases q : i < p
    · rw [List.getElem?_append_left (by omega), List.getElem?_take, if_pos q] at he
      rw [si_oj (by omega)]
      exact a1 i e q he
    · rw [List.getElem?_append_right (by omega), lt] at he
      by_cases q2 : i = p
      · subst q2
        rw [Nat.sub_self] at he
        have : (c, x) = e := Option.some.inj he
        rw [← this, si_ss]
      · rw [show i - p = (i - p - 1) + 1 by omega, List.getElem?_cons_succ, List.getElem?_drop, show p + (i - p - 1) = i - 1 by omega] at he
        have := a2 (i - 1) e (by omega) he
        rw [show i - 1 + 1 = i by omega] at this
        rw [si_oj q2]
        exact this
  · rw [List.length_append, List.length_cons, lt, List.length_drop]; omega
  · rw [List.mem_append, List.mem_cons]
    have := List.take_append_drop p O
    constructor
    · rintro (h | h | h)
      · exact .inl (List.mem_of_mem_take h)
      · exact .inr h
      · exact .inl (List.mem_of_mem_drop h)
    · rintro (h | h)
      · rw [← this] at h
        rcases List.mem_append.mp h with w | w
        · exact .inl w
        · exact .inr (.inr w)
      · exact .inr (.inl h)
  · have := List.take_append_drop p O
    rw [← this] at so
    obtain ⟨s1, s2, s3⟩ := List.pairwise_append.mp so
    refine List.pairwise_append.mpr ⟨s1, List.pairwise_cons.mpr ⟨b2, s2⟩, fun a ha b hb => ?_⟩
    rcases List.mem_cons.mp hb with w | w
    · rw [w]; exact b1 a ha
    · exact s3 a ha b w
theorem ins_l (hF : 100 ≤ F) (hL : Lay sh n z) (hc : O.length = c) (h256 : c < 256) (so : O.Pairwise (fun a b => rwN a.2 ≤ rwN b.2)) (hr : ∀ e, e ∈ O → e.1 < c ∧ CRw z e) (hx : CRw z (c, x)) : ∀ p g z', p ≤ c → p < g → FOr z z' → z'.1 73 7 = nI c → (∀ i e, i < p → O[i]? = some e → z'.1 81 i = nI e.1) → (∀ i e, p ≤ i → O[i]? = some e → z'.1 81 (i + 1) = nI e.1) → (∀ e, e ∈ O.drop p → rwN x ≤ rwN e.2) → ∃ (z'' : St) (O' : Ord), fn_X9_addPlace_L154 F sh n 73 g z' (nI p) = some (z'', ()) ∧ FOr z z'' ∧ z''.1 73 7 = nI (c + 1) ∧ (∀ i e, O'[i]? = some e → z''.1 81 i = nI e.1) ∧ O'.length = c + 1 ∧ (∀ e, e ∈ O' ↔ e ∈ O ∨ e = (c, x)) ∧ O'.Pairwise (fun a b => rwN a.2 ≤ rwN b.2) := by
  intro p
  induction p with
  | zero =>
    intro g z' h1 h2 f e7 a1 a2 b2
    obtain ⟨g, rfl⟩ : ∃ q, g = q + 1 := ⟨g - 1, by omega⟩
    rw [fn_X9_addPlace_L154, if_pos (by decide)]
    exact ins_e hL hc h256 so (Nat.zero_le _) f e7 a1 a2 (fun e he => absurd he (by simp)) b2
  | succ p ih =>
    intro g z' h1 h2 f e7 a1 a2 b2
    obtain ⟨g, rfl⟩ : ∃ q, g = q + 1 := ⟨g - 1, by omega⟩
    have lz : Lay sh n z' := hL.of (by rw [f.1])
    have hp : p < O.length := by omega
    have eo : O[p]? = some O[p] := List.getElem?_eq_getElem hp
    have mo : O[p] ∈ O := List.getElem_mem hp
    obtain ⟨m1, m2⟩ := hr _ mo
    have ar := a1 p _ (by omega) eo
    have ed : O.drop p = O[p] :: O.drop (p + 1) := List.drop_eq_getElem_cons hp
    have et : O.take (p + 1) = O.take p ++ [O[p]] := by rw [List.take_succ, eo]; rfl
    have ib := isb_t (F := F) hF lz (a := c) (b := O[p].1) (w := rw7 x) (v := rw7 O[p].2) h256 (by omega) (fun k hk => by rw [f.1]; exact hx.1 k hk) (fun k hk => by rw [f.1]; exact m2.1 k hk)
    have e1 : nI (p + 1) - 1 = nI p := (pk_sub (a := p + 1) (b := 1) (by omega)).trans (by rw [show p + 1 - 1 = p by omega])
    rw [fn_X9_addPlace_L154, if_neg (show ¬ nI (p + 1) ≤ 0 from fun e => by have := (nI_leW (a := p + 1) (b := 0) (by omega) (by omega)).mp e; omega), lz.2.2 73 6 81 rfl, lnk_s, e1, lay_a lz 81 101 256 (by decide) rfl, okI_nI (by omega) (by omega), grd_true, nI_clamp (by omega), ar, e7, ib, cal_s]
    by_cases q : wdN (rw7 x) 7 0 < wdN (rw7 O[p].2) 7 0
    · rw [if_pos q, if_neg (by decide), lz.2.2 73 6 81 rfl, lnk_s, lnk_s, lay_a lz 81 101 256 (by decide) rfl, okI_nI (by omega) (by omega), grd_true, lay_a lz 81 101 256 (by decide) rfl, okI_nI (by omega) (by omega), grd_true, nI_clamp (by omega), ar, lt_t, show nI (p + 1) + (-1) = nI p from by rw [← Int32.sub_eq_add_neg]; exact e1]
      refine ih g _ (by omega) (by omega) ⟨f.1, fun k k1 k2 => by rw [si_ok k2]; exact f.2.1 k k1 k2, fun j hj => by rw [si_ok (by decide)]; exact f.2.2 j hj⟩ (by rw [si_ok (by decide)]; exact e7) (fun i e hi he => by rw [si_oj (by omega)]; exact a1 i e (by omega) he) (fun i e hi he => ?_) (fun e he => ?_)
      · by_cases w : i = p
        · subst w
          rw [eo] at he
          rw [si_ss, Option.some.inj he]
        · rw [si_oj (by omega)]
          exact a2 i e (by omega) he
      · rw [ed] at he
        rcases List.mem_cons.mp he with w | w
        · rw [w]; exact Nat.le_of_lt q
        · exact b2 e w
    · rw [if_neg q, if_pos rfl]
      refine ins_e hL hc h256 so h1 f e7 a1 a2 (fun e he => ?_) b2
      have le : rwN O[p].2 ≤ rwN x := Nat.le_of_not_lt q
      rw [et] at he
      rcases List.mem_append.mp he with w | w
      · have s := so
        rw [← List.take_append_drop p O] at s
        have := (List.pairwise_append.mp s).2.2 e w O[p] (by rw [ed]; exact List.mem_cons_self ..)
        omega
      · rw [List.mem_singleton.mp w]; exact le
/-- a place is added -/
theorem addP (hF : 400 ≤ F) (hL : Lay sh n z) (h : CPl z P O) (h256 : O.length < 256) {kb : List Int32} (W : WCd sh n z z1 kb) (hkb : kb.length < 2 ^ 30) {val : D4} (hv : ∀ k, k < 4 → z.2.1 80 k = val k) {kd ms : Nat} {ad : Int64} {x0 x2 x3 : Int32} (e0 : x0.toInt64 = lN kd) (e2 : (x2.toInt64 <<< ((8 : Int32).toInt64 &&& 63)) ||| x3.toInt64 = lN ms) : ∃ (z' : St) (O' : Ord), fn_X9_addPlace F sh n z1 73 x0 ad x2 x3 = some (z', ()) ∧ FCr z z' ∧ CPl z' (fun y => P y ∨ y = (hB kb, (kd, ad, ms), val)) O' ∧ O'.length = O.length + 1 := by
  obtain ⟨z2, a1, a2, a3⟩ := W.fin (F := F) (by omega) hkb
  obtain ⟨z3, b1, b2, b3, b4⟩ := cpy_t (F := F) (by omega) hL a2 a3 78 (7 * O.length) 1792 (by decide) rfl (by omega) (by omega) (by decide)
  have l1 := W.lay hL
  have l2 : Lay sh n z2 := hL.of a3.2.2
  have l3 : Lay sh n z3 := hL.of b2.1
  generalize hx : ((hB kb, (kd, ad, ms), val) : Plc) = x
  have hz4 : ∃ z4, sl (sl (sl z3 78 (7 * O.length + 4) (lN kd)) 78 (7 * O.length + 5) ad) 78 (7 * O.length + 6) (lN ms) = z4 ∧ z4.1 = z3.1 ∧ z4.2.2 = z3.2.2 ∧ (∀ k, k ≠ 78 → z4.2.1 k = z3.2.1 k) ∧ (∀ k, k < 7 → z4.2.1 78 (7 * O.length + k) = rw7 x k) ∧ ∀ j, j < 7 * O.length → z4.2.1 78 j = z3.2.1 78 j := by
    refine ⟨_, rfl, rfl, rfl, fun k hk => by rw [sl_ok hk, sl_ok hk, sl_ok hk], fun k hk => ?_, fun j hj => by rw [sl_oj (by omega), sl_oj (by omega), sl_oj (by omega)]⟩
    unfold rw7
    rw [← hx]
    by_cases c6 : k = 6
    · subst c6; rw [sl_ss]; rfl
    · rw [sl_oj (by omega)]
      by_cases c5 : k = 5
      · subst c5; rw [sl_ss]; rfl
      · rw [sl_oj (by omega)]
        by_cases c4 : k = 4
        · subst c4; rw [sl_ss]; rfl
        · rw [sl_oj (by omega), b3 k (by omega), if_pos (by omega)]
  obtain ⟨z4, ez4, d1, d2, d3, d4, d5⟩ := hz4
  have l4 : Lay sh n z4 := l3.of d2
  obtain ⟨z6, g1, w6⟩ := wc_start (F := F) l4
  obtain ⟨z7, g2, w7⟩ := w6.put (F := F) (by omega) (x := 0) (c := 0) rfl
  obtain ⟨z8, g3, w8⟩ := w7.four (F := F) (by omega) l4 78 (7 * O.length) 1792 (by decide) rfl (by omega) (by omega) (by decide) (d := x.1) (fun k hk => by
    rw [d4 k (by omega)]
    unfold rw7
    rw [if_pos hk])
  have v80 : ∀ k, k < 4 → z4.2.1 80 k = val k := fun k hk => by rw [d3 80 (by decide), b2.2.2 80 (by decide) (by decide)]; exact hv k hk
  obtain ⟨z9, g4, w9⟩ := w8.four (F := F) (by omega) l4 80 0 4 (by decide) rfl (by omega) (by omega) (by decide) (d := x.2.2) (fun k hk => by rw [Nat.zero_add, ← hx]; exact v80 k hk)
  obtain ⟨za, g5, g6, g7⟩ := w9.fin (F := F) (by omega) (by simp [List.length_append, qB_len])
  obtain ⟨zb, g8, g9, ga, gb⟩ := cpy_t (F := F) (by omega) l4 g6 g7 79 (4 * O.length) 1024 (by decide) rfl (by omega) (by omega) (by decide)
  have l6 := w6.lay l4
  have l7 := w7.lay l4
  have l8 := w8.lay l4
  have l9 := w9.lay l4
  have la : Lay sh n za := l4.of g7.2.2
  have lb : Lay sh n zb := l4.of g9.1
  have z73 : z3.1 73 = z.1 73 := b2.2.1 73 (by decide) (by decide) (by decide)
  have zb73 : zb.1 73 = z.1 73 := by rw [g9.2.1 73 (by decide) (by decide) (by decide), d1, z73]
  have zb81 : zb.1 81 = z.1 81 := by rw [g9.2.1 81 (by decide) (by decide) (by decide), d1, b2.2.1 81 (by decide) (by decide) (by decide)]
  have zb78 : zb.2.1 78 = z4.2.1 78 := g9.2.2 78 (by decide) (by decide)
  have fb : FCr z zb := (b2.fc (by decide) (by decide)).trans (FCr.trans ⟨d2, fun k q => ⟨by rw [d1], d3 k (by omega)⟩, by rw [d1]⟩ (g9.fc (by decide) (by decide)))
  have rx : CRw zb (O.length, x) := ⟨fun k hk => by rw [zb78]; exact d4 k hk, fun k hk => by rw [ga k hk]; rfl⟩
  have ro : ∀ e, e ∈ O → e.1 < O.length ∧ CRw zb e := fun e he => by
    obtain ⟨q1, q2, q3, q4⟩ := h.2.2.2.1 e he
    refine ⟨q1, fun k hk => ?_, fun k hk => ?_⟩
    · rw [zb78, d5 _ (by omega), b4 _ (by omega)]; exact q3 k hk
    · rw [gb _ (by omega), d3 79 (by decide), b2.2.2 79 (by decide) (by decide)]; exact q4 k hk
  obtain ⟨zc, O', i1, i2, i3, i4, i5, i6, i7⟩ := ins_l (F := F) (x := x) (by omega) lb rfl h256 h.2.2.2.2.2 ro rx O.length F zb (Nat.le_refl _) (by omega) ⟨rfl, fun _ _ _ => rfl, fun _ _ => rfl⟩ (by rw [zb73]; exact h.1) (fun i e _ he => by rw [zb81]; exact h.2.2.1 i e he) (fun i e hi he => by
    obtain ⟨q, _⟩ := List.getElem?_eq_some_iff.mp he
    omega) (fun e he => by rw [List.drop_length] at he; exact absurd he (by simp))
  refine ⟨zc, O', ?_, fb.trans i2.fc, ⟨by rw [i5]; exact i3, by omega, i4, fun e he => ?_, fun y hy => ?_, i7⟩, i5⟩
  · have c7 : z2.1 73 7 = nI O.length := by rw [a3.1 73 (by decide) (by decide) (by decide)]; exact h.1
    have m7 : (nI O.length * 7 : Int32) = nI (7 * O.length) := by rw [show (7 : Int32) = nI 7 from rfl, pk_mul, Nat.mul_comm]
    have p4 : (nI (7 * O.length) + 4 : Int32) = nI (7 * O.length + 4) := nI_add _ 4
    have p5 : (nI (7 * O.length + 4) + 1 : Int32) = nI (7 * O.length + 5) := nI_add _ 1
    have p6 : (nI (7 * O.length + 4) + 2 : Int32) = nI (7 * O.length + 6) := nI_add _ 2
    have s1 : Lay sh n (sl z3 78 (7 * O.length + 4) (lN kd)) := l3.of rfl
    have s2 : Lay sh n (sl (sl z3 78 (7 * O.length + 4) (lN kd)) 78 (7 * O.length + 5) ad) := l3.of rfl
    unfold fn_X9_addPlace
    rw [(b_tree l1).1, grd_true, (b_tree l1).2.2.1, lnk_s, (b_digt l1).1, grd_true, a1, cal_s, c7, if_pos (show nI O.length < 256 from (nI_ltW (b := 256) (by omega) (by omega)).mpr h256), lt_t, m7, (b_tree l2).2.2.1, lnk_s, (b_tree l2).2.2.2.1, lnk_s, (b_digt l2).1, grd_true, b1, cal_s, (b_tree l3).2.2.2.1, lnk_s, p4, lay_a l3 78 102 1792 (by decide) rfl, okI_nI (by omega) (by omega), grd_true, nI_clamp (by omega), e0, lt_t, (b_tree s1).2.2.2.1, lnk_s, p5, lay_a l3 78 102 1792 (by decide) rfl, okI_nI (by omega) (by omega), grd_true, nI_clamp (by omega), lt_t, (b_tree s2).2.2.2.1, lnk_s, p6, lay_a l3 78 102 1792 (by decide) rfl, okI_nI (by omega) (by omega), grd_true, nI_clamp (by omega), e2, lt_t, ez4, (b_tree l4).2.2.1, lnk_s, (b_digt l4).1, grd_true, g1, cal_s, (b_tree l6).2.2.1, lnk_s, (b_digt l6).1, grd_true, g2, cal_s, (b_tree l7).2.2.1, lnk_s, (b_tree l7).2.2.2.1, lnk_s, (b_digt l7).1, grd_true, g3, cal_s, (b_tree l8).2.2.1, lnk_s, l8.2.2 73 5 80 rfl, lnk_s, (b_digt l8).1, grd_true, show (0 : Int32) = nI 0 from rfl, g4, cal_s, (b_tree l9).2.2.1, lnk_s, (b_digt l9).1, grd_true, g5, cal_s, (b_tree la).2.2.1, lnk_s, la.2.2 73 4 79 rfl, lnk_s, (b_digt la).1, grd_true, show za.1 73 7 = nI O.length by rw [g7.1 73 (by decide) (by decide) (by decide), d1, z73]; exact h.1, show (nI O.length * 4 : Int32) = nI (4 * O.length) from by rw [show (4 : Int32) = nI 4 from rfl, pk_mul, Nat.mul_comm], g8, cal_s, lt_t, show zb.1 73 7 = nI O.length by rw [zb73]; exact h.1]
    exact i1
  · rcases (i6 e).mp he with w | w
    · obtain ⟨q1, q2, _⟩ := h.2.2.2.1 e w
      exact ⟨by omega, .inl q2, (ro e w).2.of (by rw [i2.1]) (by rw [i2.1])⟩
    · subst w
      exact ⟨by show O.length < _; omega, .inr rfl, rx.of (by rw [i2.1]) (by rw [i2.1])⟩
  · rcases hy with w | w
    · obtain ⟨k, hk⟩ := h.2.2.2.2.1 y w
      exact ⟨k, (i6 _).mpr (.inl hk)⟩
    · subst w
      exact ⟨O.length, (i6 _).mpr (.inr rfl)⟩
end
