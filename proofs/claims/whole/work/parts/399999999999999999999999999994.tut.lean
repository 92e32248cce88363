/-! THE REFERENCE COLLECTS PLACES: put -/
def RSt (z : St) (S : List Plc) : Prop := z.1 376 5 = nI S.length ∧ S.length ≤ 256 ∧ ∀ i x, S[i]? = some x → RRw z i x
def SrQ (P : Plc → Prop) (S : List Plc) : Prop := SrK S ∧ (∀ x, x ∈ S → P x ∧ ∀ y, P y → kyN y = kyN x → idN x ≤ idN y) ∧ ∀ y, P y → ∃ x, x ∈ S ∧ kyN x = kyN y
theorem SrQ.p {P : Plc → Prop} {S Pl : List Plc} (h : SrQ P S) (e : ∀ x, P x ↔ x ∈ Pl) : SrP Pl S := ⟨h.1, fun x hx => ⟨(e x).mp (h.2.1 x hx).1, fun y hy => (h.2.1 x hx).2 y ((e y).mpr hy)⟩, fun y hy => h.2.2 y ((e y).mpr hy)⟩
theorem SrQ.cg {P Q : Plc → Prop} {S : List Plc} (h : SrQ P S) (e : ∀ x, P x ↔ Q x) : SrQ Q S := ⟨h.1, fun x hx => ⟨(e x).mp (h.2.1 x hx).1, fun y hy => (h.2.1 x hx).2 y ((e y).mpr hy)⟩, fun y hy => h.2.2 y ((e y).mpr hy)⟩
/-- cells that collecting changes -/
def FPt (z z' : St) : Prop := z'.2.2 = z.2.2 ∧ (∀ k, ¬ (376 ≤ k ∧ k ≤ 381) → z'.1 k = z.1 k ∧ z'.2.1 k = z.2.1 k)
theorem FPt.trans {z z1 z2 : St} (h : FPt z z1) (h' : FPt z1 z2) : FPt z z2 := ⟨h'.1.trans h.1, fun k q => ⟨(h'.2 k q).1.trans (h.2 k q).1, (h'.2 k q).2.trans (h.2 k q).2⟩⟩
theorem RWr.fp {z z' : St} {i : Nat} {x : Plc} (h : RWr z z' i x) : FPt z z' := ⟨h.1, fun k q => ⟨h.2.1 k (by omega) (by omega), h.2.2.1 k (by omega) (by omega) (by omega)⟩⟩
theorem RRw.i5 {z : St} {i : Nat} {x : Plc} {v : Int32} (h : RRw z i x) : RRw (si z 376 5 v) i x := by
  obtain ⟨a, b, c, d, e⟩ := h
  exact ⟨a, b, by rw [si_ok (by decide)]; exact c, d, by rw [si_ok (by decide)]; exact e⟩
section
variable {F n : Nat} {sh : Nat → Nat × Nat} {z z1 : St} {S : List Plc} {x : Plc} {P : Plc → Prop}
theorem ins_q (h : SrQ P S) {p : Nat} (lo : ∀ e, e ∈ S.take p → kyN e < kyN x) (hi : ∀ e, e ∈ S.drop p → kyN x < kyN e) : SrQ (fun y => P y ∨ y = x) (S.take p ++ x :: S.drop p) := by
  have es := List.take_append_drop p S
  have ms : ∀ e, e ∈ S ↔ e ∈ S.take p ∨ e ∈ S.drop p := fun e => by
    conv => lhs; rw [← es]
    exact List.mem_append
  have nk : ∀ y, P y → kyN y ≠ kyN x := fun y hy w => by
    obtain ⟨e, e1, e2⟩ := h.2.2 y hy
    rcases (ms e).mp e1 with q | q
    · have := lo e q; omega
    · have := hi e q; omega
  refine ⟨?_, fun e he => ?_, fun y hy => ?_⟩
  · have s := h.1
    rw [← es] at s
    obtain ⟨s1, s2, s3⟩ := List.pairwise_append.mp s
    refine List.pairwise_append.mpr ⟨s1, List.pairwise_cons.mpr ⟨hi, s2⟩, fun a ha b hb => ?_⟩
    rcases List.mem_cons.mp hb with w | w
    · rw [w]; exact lo a ha
    · exact s3 a ha b w
  · have : e ∈ S ∨ e = x := by
      rcases List.mem_append.mp he with q | q
      · exact .inl ((ms e).mpr (.inl q))
      · rcases List.mem_cons.mp q with q | q
        · exact .inr q
        · exact .inl ((ms e).mpr (.inr q))
    rcases this with q | q
    · refine ⟨.inl (h.2.1 e q).1, fun y hy w => ?_⟩
      rcases hy with r | r
      · exact (h.2.1 e q).2 y r w
      · subst r
        exact absurd w.symm (nk e (h.2.1 e q).1)
    · subst q
      refine ⟨.inr rfl, fun y hy w => ?_⟩
      rcases hy with r | r
      · exact absurd w (nk y r)
      · rw [r]; exact Nat.le_refl _
  · rcases hy with r | r
    · obtain ⟨e, e1, e2⟩ := h.2.2 y r
      refine ⟨e, ?_, e2⟩
      rcases (ms e).mp e1 with q | q
      · exact List.mem_append_left _ q
      · exact List.mem_append_right _ (List.mem_cons_of_mem _ q)
    · exact ⟨x, List.mem_append_right _ (List.mem_cons_self ..), by rw [r]⟩
theorem same_q (h : SrQ P S) {e : Plc} (he : e ∈ S) (k : kyN e = kyN x) (i : idN e ≤ idN x) : SrQ (fun y => P y ∨ y = x) S := by
  refine ⟨h.1, fun a ha => ⟨.inl (h.2.1 a ha).1, fun y hy w => ?_⟩, fun y hy => ?_⟩
  · rcases hy with r | r
    · exact (h.2.1 a ha).2 y r w
    · subst r
      rw [h.1.inj ha he (by rw [← w, k])]
      exact i
  · rcases hy with r | r
    · exact h.2.2 y r
    · exact ⟨e, he, by rw [r]; exact k⟩
theorem set_q (h : SrQ P S) {p : Nat} {e : Plc} (he : S[p]? = some e) (k : kyN e = kyN x) (i : ¬ idN e ≤ idN x) : SrQ (fun y => P y ∨ y = x) (S.set p x) := by
  obtain ⟨hp, ep⟩ := List.getElem?_eq_some_iff.mp he
  have me : e ∈ S := List.mem_of_getElem? he
  have mem : ∀ a, a ∈ S.set p x → (a ∈ S ∧ kyN a ≠ kyN x) ∨ a = x := fun a ha => by
    obtain ⟨j, hj, ej⟩ := List.getElem_of_mem ha
    rw [List.length_set] at hj
    rw [List.getElem_set] at ej
    by_cases c : p = j
    · rw [if_pos c] at ej; exact .inr ej.symm
    · rw [if_neg c] at ej
      refine .inl ⟨ej ▸ List.getElem_mem hj, fun w => ?_⟩
      have q := List.pairwise_iff_getElem.mp h.1
      rcases Nat.lt_or_gt_of_ne c with d | d
      · have := q p j hp hj d; rw [ep, ej, k, w] at this; omega
      · have := q j p hj hp d; rw [ep, ej, k, w] at this; omega
  refine ⟨?_, fun a ha => ?_, fun y hy => ?_⟩
  · refine List.pairwise_iff_getElem.mpr (fun a b ha hb hab => ?_)
    rw [List.length_set] at ha hb
    have q := List.pairwise_iff_getElem.mp h.1 a b ha hb hab
    rw [List.getElem_set, List.getElem_set]
    by_cases c : p = a
    · subst c
      rw [if_pos rfl, if_neg (by omega), ← k, ← ep]; exact q
    · rw [if_neg c]
      by_cases d : p = b
      · subst d
        rw [if_pos rfl, ← k, ← ep]; exact q
      · rw [if_neg d]; exact q
  · rcases mem a ha with ⟨q1, q2⟩ | q
    · refine ⟨.inl (h.2.1 a q1).1, fun y hy w => ?_⟩
      rcases hy with r | r
      · exact (h.2.1 a q1).2 y r w
      · subst r; exact absurd w.symm q2
    · subst q
      refine ⟨.inr rfl, fun y hy w => ?_⟩
      rcases hy with r | r
      · have := (h.2.1 e me).2 y r (by rw [w, k])
        omega
      · rw [r]; exact Nat.le_refl _
  · have px : x ∈ S.set p x := List.mem_set hp x
    rcases hy with r | r
    · obtain ⟨a, a1, a2⟩ := h.2.2 y r
      by_cases c : kyN a = kyN x
      · exact ⟨x, px, by rw [← c, a2]⟩
      · obtain ⟨j, hj, ej⟩ := List.getElem_of_mem a1
        refine ⟨a, ?_, a2⟩
        have d : p ≠ j := fun w => by subst w; rw [ep] at ej; rw [← ej] at c; exact c k
        have : (S.set p x)[j]'(by rw [List.length_set]; exact hj) = a := by rw [List.getElem_set, if_neg d]; exact ej
        exact this ▸ List.getElem_mem _
    · exact ⟨x, px, by rw [r]⟩
theorem put_84 (hF : 400 ≤ F) (hL : Lay sh n z) (h : RSt z S) (h256 : S.length < 256) {p : Nat} (hp : p ≤ S.length) (hk : ∀ k, k < 4 → z.2.1 421 k = x.1 k) (hv : ∀ k, k < 4 → z.2.1 422 k = x.2.2 k) : ∀ r g z1, p + r ≤ S.length → r < g → FPt z z1 → z1.1 376 = z.1 376 → (∀ i e, i < p + r → S[i]? = some e → RRw z1 i e) → (∀ i e, p + r ≤ i → S[i]? = some e → RRw z1 (i + 1) e) → ∃ z', fn_X14_put_L84 F sh n (nI p) 376 421 422 (nI x.2.1.1) x.2.1.2.1 (nI (rnm x)) g z1 (nI (p + r)) = some (z', ()) ∧ FPt z z' ∧ RSt z' (S.take p ++ x :: S.drop p) := by
  intro r
  induction r with
  | zero =>
    intro g z1 h1 h2 f e6 a1 a2
    obtain ⟨g, rfl⟩ : ∃ q, g = q + 1 := ⟨g - 1, by omega⟩
    have l1 : Lay sh n z1 := hL.of f.1
    obtain ⟨z2, b1, b2⟩ := keep_w (F := F) (x := x) (by omega) l1 (i := p) (by omega) (fun k q => by rw [(f.2 421 (by omega)).2]; exact hk k q) (fun k q => by rw [(f.2 422 (by omega)).2]; exact hv k q)
    have e5 : z2.1 376 5 = nI S.length := by rw [b2.2.1 376 (by decide) (by decide), e6]; exact h.1
    have lt : (S.take p).length = p := by rw [List.length_take]; omega
    have ll : (S.take p ++ x :: S.drop p).length = S.length + 1 := by rw [List.length_append, List.length_cons, lt, List.length_drop]; omega
    refine ⟨si z2 376 5 (nI (S.length + 1)), ?_, f.trans (b2.fp.trans ⟨rfl, fun k q => ⟨si_ok (by omega), rfl⟩⟩), by rw [ll]; exact si_ss, by omega, fun i e he => ?_⟩
    · show fn_X14_put_L84 F sh n (nI p) 376 421 422 (nI x.2.1.1) x.2.1.2.1 (nI (rnm x)) (g + 1) z1 (nI p) = _
      rw [fn_X14_put_L84, if_pos ((nI_leW (by omega) (by omega)).mpr (Nat.le_refl _)), b1, cal_s, e5, nI_1, lt_t]
    · refine RRw.i5 ?_
      by_cases q : i < p
      · rw [List.getElem?_append_left (by omega), List.getElem?_take, if_pos q] at he
        exact b2.2.2.2.2 i e (by omega) (a1 i e (by omega) he)
      · rw [List.getElem?_append_right (by omega), lt] at he
        by_cases q2 : i = p
        · subst q2
          rw [Nat.sub_self] at he
          have : x = e := Option.some.inj he
          subst this
          exact b2.2.2.2.1
        · rw [show i - p = (i - p - 1) + 1 by omega, List.getElem?_cons_succ, List.getElem?_drop, show p + (i - p - 1) = i - 1 by omega] at he
          have := a2 (i - 1) e (by omega) he
          rw [show i - 1 + 1 = i by omega] at this
          exact b2.2.2.2.2 i e q2 this
  | succ r ih =>
    intro g z1 h1 h2 f e6 a1 a2
    obtain ⟨g, rfl⟩ : ∃ q, g = q + 1 := ⟨g - 1, by omega⟩
    have l1 : Lay sh n z1 := hL.of f.1
    have hr : p + r < S.length := by omega
    have eo : S[p + r]? = some S[p + r] := List.getElem?_eq_getElem hr
    obtain ⟨z2, b1, b2⟩ := copy_w (F := F) (by omega) l1 (i := p + r) (by omega) (a1 (p + r) _ (by omega) eo) (ko := fun z9 q8 => fn_X14_put_L84 F sh n (nI p) 376 421 422 (nI x.2.1.1) x.2.1.2.1 (nI (rnm x)) g z9 q8)
    obtain ⟨z', c1, c2⟩ := ih g z2 (by omega) (by omega) (f.trans b2.fp) (by rw [b2.2.1 376 (by decide) (by decide)]; exact e6) (fun i e hi he => b2.2.2.2.2 i e (by omega) (a1 i e (by omega) he)) (fun i e hi he => by
      by_cases w : i = p + r
      · subst w
        rw [eo] at he
        rw [← Option.some.inj he]
        exact b2.2.2.2.1
      · exact b2.2.2.2.2 (i + 1) e (by omega) (a2 i e (by omega) he))
    refine ⟨z', ?_, c2⟩
    rw [← Nat.add_assoc, fn_X14_put_L84, if_neg (fun e => by have := (nI_leW (a := p + r + 1) (b := p) (by omega) (by omega)).mp e; omega), b1]
    exact c1
theorem put_r (hF : 400 ≤ F) (hL : Lay sh n z) (h : RSt z S) (sq : SrQ P S) (pk : ∀ y, P y → PkO y) (px : PkO x) (h256 : S.length < 256) (hk : ∀ k, k < 4 → z.2.1 421 k = x.1 k) (hv : ∀ k, k < 4 → z.2.1 422 k = x.2.2 k) : ∃ z' S', fn_X14_put F sh n z 376 421 422 (nI x.2.1.1) x.2.1.2.1 (nI (rnm x)) = some (z', ()) ∧ FPt z z' ∧ RSt z' S' ∧ SrQ (fun y => P y ∨ y = x) S' ∧ S'.length ≤ S.length + 1 := by
  have b78 : ∀ p, p ≤ S.length → (∀ e, e ∈ S.take p → kyN e < kyN x) → (∀ e, e ∈ S.drop p → kyN x < kyN e) → ∃ z' S', fn_X14_put_B78 F sh n 376 (nI p) 421 422 (nI x.2.1.1) x.2.1.2.1 (nI (rnm x)) z = some (z', ()) ∧ FPt z z' ∧ RSt z' S' ∧ SrQ (fun y => P y ∨ y = x) S' ∧ S'.length ≤ S.length + 1 := by
    intro p hp lo hi
    obtain ⟨z', a1, a2, a3⟩ := put_84 (F := F) (x := x) hF hL h h256 hp hk hv (S.length - p) F z (by omega) (by omega) ⟨rfl, fun _ _ => ⟨rfl, rfl⟩⟩ rfl (fun i e _ he => h.2.2 i e he) (fun i e hi he => by
      obtain ⟨q, _⟩ := List.getElem?_eq_some_iff.mp he
      omega)
    refine ⟨z', _, ?_, a2, a3, ins_q sq lo hi, ?_⟩
    · unfold fn_X14_put_B78
      rw [lt_t, h.1]
      rw [show p + (S.length - p) = S.length by omega] at a1
      exact a1
    · rw [List.length_append, List.length_cons, List.length_take, List.length_drop]; omega
  have key : ∀ p g, p ≤ S.length → p < g → (∀ e, e ∈ S.drop p → kyN x < kyN e) → ∃ z' S', fn_X14_put_L6 F sh n 376 421 422 (nI x.2.1.1) x.2.1.2.1 (nI (rnm x)) g z (nI p) = some (z', ()) ∧ FPt z z' ∧ RSt z' S' ∧ SrQ (fun y => P y ∨ y = x) S' ∧ S'.length ≤ S.length + 1 := by
    intro p
    induction p with
    | zero =>
      intro g h1 h2 hi
      obtain ⟨g, rfl⟩ : ∃ q, g = q + 1 := ⟨g - 1, by omega⟩
      rw [fn_X14_put_L6, if_pos (by decide)]
      unfold fn_X14_put_B29
      rw [if_pos (by decide)]
      exact b78 0 (by omega) (fun e he => absurd he (by simp)) hi
    | succ p ih =>
      intro g h1 h2 hi
      obtain ⟨g, rfl⟩ : ∃ q, g = q + 1 := ⟨g - 1, by omega⟩
      have hp : p < S.length := by omega
      have eo : S[p]? = some S[p] := List.getElem?_eq_getElem hp
      have mo : S[p] ∈ S := List.getElem_mem hp
      have rr := h.2.2 p _ eo
      have ed : S.drop p = S[p] :: S.drop (p + 1) := List.drop_eq_getElem_cons hp
      have et : S.take (p + 1) = S.take p ++ [S[p]] := by rw [List.take_succ, eo]; rfl
      have e1 : nI (p + 1) - 1 = nI p := (pk_sub (a := p + 1) (b := 1) (by omega)).trans (by rw [show p + 1 - 1 = p by omega])
      have np : ¬ nI (p + 1) ≤ 0 := fun e => by have := (nI_leW (a := p + 1) (b := 0) (by omega) (by omega)).mp e; omega
      rw [fn_X14_put_L6, if_neg np, e1, beh_t (F := F) (by omega) hL (by omega) rr hk, cal_s]
      by_cases c : kyN x < kyN S[p]
      · rw [if_pos c, if_neg (by decide), show nI (p + 1) + (-1) = nI p from by rw [← Int32.sub_eq_add_neg]; exact e1]
        refine ih g (by omega) (by omega) (fun e he => ?_)
        rw [ed] at he
        rcases List.mem_cons.mp he with w | w
        · rw [w]; exact c
        · exact hi e w
      · rw [if_neg c, if_pos rfl]
        unfold fn_X14_put_B29
        obtain ⟨r, r1, r2⟩ := isa_t (F := F) (by omega) hL (by omega) rr hk
        rw [if_neg np, e1, r1, cal_s]
        by_cases d : kyN S[p] = kyN x
        · rw [if_neg (fun w => r2.mp w d)]
          obtain ⟨s, s1, s2⟩ := isl_t (F := F) hL (by omega) rr (pk _ (sq.2.1 _ mo).1) px
          rw [s1, cal_s]
          by_cases i : idN S[p] ≤ idN x
          · rw [if_neg (fun w => s2.mp w i)]
            exact ⟨z, S, rfl, ⟨rfl, fun _ _ => ⟨rfl, rfl⟩⟩, h, same_q sq mo d i, by omega⟩
          · rw [if_pos (s2.mpr i)]
            obtain ⟨z2, b1, b2⟩ := keep_w (F := F) (x := x) (by omega) hL (i := p) (by omega) hk hv
            rw [b1, cal_s]
            refine ⟨z2, S.set p x, rfl, b2.fp, ⟨by rw [List.length_set, b2.2.1 376 (by decide) (by decide)]; exact h.1, by rw [List.length_set]; omega, fun j e he => ?_⟩, set_q sq eo d i, by rw [List.length_set]; omega⟩
            rw [List.getElem?_set] at he
            by_cases w : p = j
            · subst w
              rw [if_pos rfl, if_pos hp] at he
              rw [← Option.some.inj he]
              exact b2.2.2.2.1
            · rw [if_neg w] at he
              exact b2.2.2.2.2 j e (fun q => w q.symm) (h.2.2 j e he)
        · rw [if_pos (r2.mpr d)]
          refine b78 (p + 1) h1 (fun e he => ?_) hi
          rw [et] at he
          rcases List.mem_append.mp he with w | w
          · have s := sq.1
            rw [← List.take_append_drop p S] at s
            have := (List.pairwise_append.mp s).2.2 e w S[p] (by rw [ed]; exact List.mem_cons_self ..)
            omega
          · rw [List.mem_singleton.mp w]; omega
  obtain ⟨z', S', a1, a2⟩ := key S.length F (Nat.le_refl _) (by omega) (fun e he => by rw [List.drop_length] at he; exact absurd he (by simp))
  refine ⟨z', S', ?_, a2⟩
  unfold fn_X14_put
  rw [(b_roots hL).1, grd_true, lt_t, h.1]
  exact a1
end
