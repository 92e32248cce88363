/-! THE CLASS'S HEAP: a tree is laid into the ledger's rows -/
def FrT (a b : Nat) (z z' : St) : Prop := z'.2.2 = z.2.2 ∧ ∀ k j, ¬ (12 ≤ k ∧ k ≤ 14 ∧ a ≤ j ∧ j < b) → z'.1 k j = z.1 k j ∧ z'.2.1 k j = z.2.1 k j
theorem FrT.rfl' {a b : Nat} {z : St} : FrT a b z z := ⟨rfl, fun _ _ _ => ⟨rfl, rfl⟩⟩
theorem FrT.wide {a b c d : Nat} {z z' : St} (f : FrT a b z z') (h1 : c ≤ a) (h2 : b ≤ d) : FrT c d z z' := ⟨f.1, fun k j h => f.2 k j (fun q => h (by omega))⟩
theorem FrT.trans {a b : Nat} {z z' z'' : St} (f : FrT a b z z') (g : FrT a b z' z'') : FrT a b z z'' := ⟨g.1.trans f.1, fun k j h => ⟨(g.2 k j h).1.trans (f.2 k j h).1, (g.2 k j h).2.trans (f.2 k j h).2⟩⟩
theorem FrT.si {a b : Nat} {z : St} {k j : Nat} {v : Int32} (h : 12 ≤ k ∧ k ≤ 14 ∧ a ≤ j ∧ j < b) : FrT a b z (si z k j v) := ⟨rfl, fun i l q => ⟨by
  by_cases e : i = k
  · subst e
    have : l ≠ j := fun w => q (by subst w; exact h)
    rw [si_oj this]
  · rw [si_ok e], rfl⟩⟩
theorem FrT.sl {a b : Nat} {z : St} {k j : Nat} {v : Int64} (h : 12 ≤ k ∧ k ≤ 14 ∧ a ≤ j ∧ j < b) : FrT a b z (sl z k j v) := ⟨rfl, fun i l q => ⟨rfl, by
  by_cases e : i = k
  · subst e
    have : l ≠ j := fun w => q (by subst w; exact h)
    rw [sl_oj this]
  · rw [sl_ok e]⟩⟩
theorem FrT.hc {a b : Nat} {z z' : St} (f : FrT a b z z') {H : Hp} {u : Nat} {s : Int32} (h : HC z H u s) : HC z' H u s := h.fr (fun k k1 k2 => funext fun j => (f.2 k j (by omega)).1) (fun k k1 k2 => funext fun j => (f.2 k j (by omega)).2)
theorem RowsC.keep {z z' : St} {E : List Ent} {a b c : Nat} (h : RowsC z E a) (f : FrT b c z z') (hb : a + E.length ≤ b ∨ c ≤ a) : RowsC z' E a := fun i hi => by
  obtain ⟨h1, h2, h3⟩ := h i hi
  exact ⟨by rw [(f.2 12 (a + i) (by omega)).1]; exact h1, by rw [(f.2 13 (a + i) (by omega)).2]; exact h2, by rw [(f.2 14 (a + i) (by omega)).2]; exact h3⟩
theorem RowsC.join {z : St} {E G : List Ent} {a : Nat} (h : RowsC z E a) (g : RowsC z G (a + E.length)) : RowsC z (E ++ G) a := fun i hi => by
  by_cases c : i < E.length
  · rw [List.getElem_append_left c]; exact h i c
  · rw [List.getElem_append_right (by omega)]
    rw [List.length_append] at hi
    have := g (i - E.length) (by omega)
    rw [show a + E.length + (i - E.length) = a + i by omega] at this
    exact this
theorem RowsC.put {z : St} {e : Ent} {E : List Ent} {a : Nat} (h : z.1 12 a = nI e.1 ∧ z.2.1 13 a = (if inn e.1 then lN e.2.2.2.1 else e.2.1) ∧ z.2.1 14 a = (if inn e.1 then 0 else e.2.2.1)) (g : RowsC z E (a + 1)) : RowsC z (e :: E) a := RowsC.join (E := [e]) (fun i hi => by
  have : i = 0 := by simpa using hi
  subst this
  exact h) g
/-- the entries of a tree -/
def Rep (H : Hp) : Nat → Nat → List Ent → Prop
  | 0, _, _ => False
  | d + 1, v, E => ∃ e Es, E = e :: List.flatten Es ∧ Es.length = e.2.2.2.1 ∧ ((H v).1 = e.1 ∧ e.1 ≠ 0 ∧ (¬ inn e.1 → (H v).2.1 = e.2.1 ∧ (H v).2.2.1 = e.2.2.1)) ∧ (H v).2.2.2.length = Es.length ∧ (¬ inn e.1 → Es = []) ∧ ∀ i (hi : i < Es.length), Rep H d (kidN (H v).2.2.2 i) Es[i]
section
variable {F n : Nat} {sh : Nat → Nat × Nat} {H : Hp} {u : Nat} {s : Int32}
theorem storeL_t (hF : 300 ≤ F) {v : Nat} (hv : (H v).1 ≠ 0) (hi : inn (H v).1) {rec : St → Nat → Int32 → Nat → Int32 → Int32 → Option (St × Int32)} {x3 : Int32} {Es : List (List Ent)} (hl : (H v).2.2.2.length = Es.length) (hr : ∀ i (hi : i < Es.length) z b, Lay sh n z → HC z H u s → b + Es[i].length ≤ 16384 → ∃ z', rec z 88 (nI (kidN (H v).2.2.2 i)) 3 (nI b) (x3 + 1) = some (z', nI (b + Es[i].length)) ∧ RowsC z' Es[i] b ∧ FrT b (b + Es[i].length) z z') : ∀ k m f z b, m + k = Es.length → k < f → Lay sh n z → HC z H u s → b + (Es.drop m).flatten.length ≤ 16384 → ∃ z', fn_X1_storeNode_L92 F sh n 1 88 (nI v) rec 3 x3 f z (nI b) (nI m) = some (z', nI (b + (Es.drop m).flatten.length)) ∧ RowsC z' (Es.drop m).flatten b ∧ FrT b (b + (Es.drop m).flatten.length) z z' := by
  intro k
  induction k with
  | zero =>
    intro m f z b e hf hL h hb
    obtain ⟨f', rfl⟩ : ∃ g, f = g + 1 := ⟨f - 1, by omega⟩
    obtain ⟨a1, a2, a3, a4⟩ := h.inr hv hi
    obtain ⟨b1, b2⟩ := h.i1 hv
    have en : Es.drop m = [] := List.drop_eq_nil_of_le (by omega)
    rw [en]
    refine ⟨z, ?_, fun i hi => absurd hi (by simp), FrT.rfl'⟩
    unfold fn_X1_storeNode_L92
    rw [if_neg one0, (b_heap hL).2.2.2.1, lnk_s, (b_heap hL).2.2.2.2.2.2.2.1, b1, grd_true, b2, a1, lIi (by omega), if_pos ((lN_le (by omega) (by omega)).mpr (by omega))]
    rfl
  | succ k ih =>
    intro m f z b e hf hL h hb
    obtain ⟨f', rfl⟩ : ∃ g, f = g + 1 := ⟨f - 1, by omega⟩
    obtain ⟨a1, a2, a3, a4⟩ := h.inr hv hi
    obtain ⟨b1, b2⟩ := h.i1 hv
    have hm : m < Es.length := by omega
    have ed : Es.drop m = Es[m] :: Es.drop (m + 1) := List.drop_eq_getElem_cons hm
    rw [ed, List.flatten_cons, List.length_append] at hb ⊢
    have ch := child_t (F := F) hF hL h hv hi (i := m) (by omega)
    obtain ⟨z1, q1, q2, q3⟩ := hr m hm z b hL h (by omega)
    obtain ⟨z2, p1, p2, p3⟩ := ih (m + 1) f' z1 (b + Es[m].length) (by omega) (by omega) (hL.of q3.1) (q3.hc h) (by omega)
    refine ⟨z2, ?_, (q2.keep p3 (.inl (Nat.le_refl _))).join p2, (q3.wide (Nat.le_refl _) (by omega)).trans (p3.wide (by omega) (by omega))⟩
    unfold fn_X1_storeNode_L92
    rw [if_neg one0, (b_heap hL).2.2.2.1, lnk_s, (b_heap hL).2.2.2.2.2.2.2.1, b1, grd_true, b2, a1, lIi (by omega), if_neg (fun q => by have := (lN_le (by omega) (by omega)).mp q; omega), ch, cal_s]
    rw [show hd0 ((H v).2.2.2.drop ((H v).2.2.2.length - 1 - m)) = kidN (H v).2.2.2 m from rfl, q1, cal_s, nI_1, p1, Nat.add_assoc]
theorem storeNode_t (hF : 300 ≤ F) : ∀ d z v E a dep fu, Lay sh n z → HC z H u s → Rep H d v E → a + E.length ≤ 16384 → d + dep ≤ 41 → d ≤ fu → ∃ z', fn_X1_storeNode F sh n fu z 88 (nI v) 3 (nI a) (nI dep) = some (z', nI (a + E.length)) ∧ RowsC z' E a ∧ FrT a (a + E.length) z z' := by
  intro d
  induction d with
  | zero => intro z v E a dep fu _ _ t; exact absurd t (by simp [Rep])
  | succ d ih =>
    intro z v E a dep fu hL h t ha hd hf
    obtain ⟨f', rfl⟩ : ∃ g, fu = g + 1 := ⟨fu - 1, by omega⟩
    obtain ⟨e, Es, t1, t2, ⟨t3, t4, t5⟩, t6, t7, t8⟩ := t
    subst t1
    rw [List.length_cons] at ha ⊢
    have hv : (H v).1 ≠ 0 := by rw [t3]; exact t4
    have hk := h.k11 hv
    obtain ⟨b1, b2⟩ := h.i1 hv
    have b12 : (sh 12).2 = 16384 := by rw [hL.2.1 12 (by omega)]; rfl
    have c1 : ¬ (Int32.ofNat (sh 12).2 ≤ nI a) := by rw [b12]; exact nI_ge (a := a) (b := 16384) (by omega) (by omega)
    have c2 : nI dep ≤ 40 := (nIle (x := 40) 40 rfl (by omega) (by omega)).mpr (by omega)
    have oa : okI (nI a) 16384 = true := okI_nI (by omega) (by omega)
    have ca : (nI a).toNatClampNeg = a := nI_clamp (by omega)
    have o12 : okO sh n 12 100 = true := lay_o hL 12 100 16384 (by decide) rfl
    have S := b_state hL
    have Hh := b_heap hL
    have kd := h.kd hv
    have e1 : ∀ x, (si z 12 a x).2.2 = z.2.2 := fun x => rfl
    have L1 : ∀ x, Lay sh n (si z 12 a x) := fun x => hL.of rfl
    have f1 : FrT a (a + 1) z (si z 12 a (nI e.1)) := FrT.si (by omega)
    have h1 := f1.hc h
    have L2 : ∀ y, Lay sh n (sl (si z 12 a (nI e.1)) 13 a y) := fun y => hL.of rfl
    have f2 : ∀ y, FrT a (a + 1) z (sl (si z 12 a (nI e.1)) 13 a y) := fun y => f1.trans (FrT.sl (by omega))
    have h2 : ∀ y, HC (sl (si z 12 a (nI e.1)) 13 a y) H u s := fun y => (f2 y).hc h
    have f3 : ∀ y w, FrT a (a + 1) z (sl (sl (si z 12 a (nI e.1)) 13 a y) 14 a w) := fun y w => (f2 y).trans (FrT.sl (by omega))
    have L3 : ∀ y w, Lay sh n (sl (sl (si z 12 a (nI e.1)) 13 a y) 14 a w) := fun y w => hL.of rfl
    have r3 : ∀ y w, (sl (sl (si z 12 a (nI e.1)) 13 a y) 14 a w).1 12 a = nI e.1 ∧ (sl (sl (si z 12 a (nI e.1)) 13 a y) 14 a w).2.1 13 a = y ∧ (sl (sl (si z 12 a (nI e.1)) 13 a y) 14 a w).2.1 14 a = w := fun y w => ⟨by rw [sl_1, sl_1, si_ss], by rw [sl_ok (by omega), sl_ss], sl_ss⟩
    unfold fn_X1_storeNode
    rw [S.1, grd_true, S.2.2.2.2.2.2.2.2.2.1, lnk_s, o12, grd_true, if_neg c1, if_pos c2, Hh.1, grd_true, Hh.2.1, lnk_s, Hh.2.2.2.2.2.1, b1, grd_true, b2, kd]
    by_cases ci : inn (H v).1
    · obtain ⟨a1, a2, a3, a4⟩ := h.inr hv ci
      have ci' : inn e.1 := by rw [← t3]; exact ci
      have y1 : (si z 12 a (nI e.1)).2.1 91 v = lN Es.length := by show z.2.1 91 v = _; rw [a1, t6]
      rw [holds_i ci, cal_s, S.2.2.2.2.2.2.2.2.2.1, lnk_s, Hh.2.1, lnk_s, Hh.2.2.2.2.2.1, b1, grd_true, S.2.2.2.2.2.2.2.2.2.2.2.2.2.2.2.2.2.2.2.2.1, oa, grd_true, ca, kd, nar_k hk, t3, lt_t, e1, S.2.2.2.2.2.2.2.2.2.2.1, lnk_s, Hh.2.2.2.1, lnk_s, Hh.2.2.2.2.2.2.2.1, b1, grd_true, S.2.2.2.2.2.2.2.2.2.2.2.2.2.2.2.2.2.2.2.2.2.1, oa, grd_true, y1, lt_t, (b_state (L2 _)).2.2.2.2.2.2.2.2.2.2.2.1, lnk_s, if_neg one0]
      unfold fn_X1_storeNode_B83
      rw [S.2.2.2.2.2.2.2.2.2.2.2.2.2.2.2.2.2.2.2.2.2.2, oa, grd_true, ca, lt_t, lt_t, nI_1]
      obtain ⟨z', q1, q2, q3⟩ := storeL_t (F := F) (n := n) (sh := sh) (u := u) (s := s) (rec := fn_X1_storeNode F sh n f') (x3 := nI dep) hF hv ci t6 (fun i hi z2 b g1 g2 g3 => by rw [nI_1]; exact ih z2 _ _ b (dep + 1) f' g1 g2 (t8 i hi) g3 (by omega) (by omega)) Es.length 0 F (sl (sl (si z 12 a (nI e.1)) 13 a (lN Es.length)) 14 a 0) (a + 1) (by omega) (by have := t6; omega) (L3 _ _) ((f3 _ _).hc h) (by rw [List.drop_zero]; omega)
      rw [List.drop_zero] at q1 q2 q3
      obtain ⟨s1, s2, s3⟩ := r3 (lN Es.length) 0
      refine ⟨z', ?_, RowsC.put ⟨?_, ?_, ?_⟩ q2, ((f3 _ _).wide (Nat.le_refl _) (by omega)).trans (q3.wide (by omega) (by omega))⟩
      · rw [show a + (Es.flatten.length + 1) = a + 1 + Es.flatten.length by omega, show (0 : Int32) = nI 0 from rfl]; exact q1
      · rw [(q3.2 12 a (by omega)).1]; exact s1
      · rw [(q3.2 13 a (by omega)).2, s2, if_pos ci', t2]
      · rw [(q3.2 14 a (by omega)).2, s3, if_pos ci']
    · obtain ⟨a1, a2⟩ := h.leaf hv ci
      have ci' : ¬ inn e.1 := by rw [← t3]; exact ci
      obtain ⟨t5a, t5b⟩ := t5 ci'
      have en := t7 ci'
      subst en
      have y1 : (si z 12 a (nI e.1)).2.1 91 v = e.2.1 := by show z.2.1 91 v = _; rw [a1, t5a]
      have y2 : (sl (si z 12 a (nI e.1)) 13 a e.2.1).2.1 90 v = e.2.2.1 := by rw [sl_ok (by omega)]; show z.2.1 90 v = _; rw [a2, t5b]
      rw [holds_n hk ci, cal_s, S.2.2.2.2.2.2.2.2.2.1, lnk_s, Hh.2.1, lnk_s, Hh.2.2.2.2.2.1, b1, grd_true, S.2.2.2.2.2.2.2.2.2.2.2.2.2.2.2.2.2.2.2.2.1, oa, grd_true, ca, kd, nar_k hk, t3, lt_t, e1, S.2.2.2.2.2.2.2.2.2.2.1, lnk_s, Hh.2.2.2.1, lnk_s, Hh.2.2.2.2.2.2.2.1, b1, grd_true, S.2.2.2.2.2.2.2.2.2.2.2.2.2.2.2.2.2.2.2.2.2.1, oa, grd_true, y1, lt_t, (b_state (L2 _)).2.2.2.2.2.2.2.2.2.2.2.1, lnk_s, if_pos rfl, (b_heap (L2 _)).2.2.1, lnk_s, Hh.2.2.2.2.2.2.1, b1, grd_true, y2]
      unfold fn_X1_storeNode_B83
      rw [S.2.2.2.2.2.2.2.2.2.2.2.2.2.2.2.2.2.2.2.2.2.2, oa, grd_true, ca, lt_t, lt_t, nI_1]
      obtain ⟨f'', eF⟩ : ∃ g, F = g + 1 := ⟨F - 1, by omega⟩
      obtain ⟨s1, s2, s3⟩ := r3 e.2.1 e.2.2.1
      refine ⟨sl (sl (si z 12 a (nI e.1)) 13 a e.2.1) 14 a e.2.2.1, ?_, RowsC.put ⟨s1, by rw [s2, if_neg ci'], by rw [s3, if_neg ci']⟩ (fun i hi => absurd hi (by simp)), f3 _ _⟩
      rw [eF]
      unfold fn_X1_storeNode_L92
      rw [if_pos rfl, List.flatten_nil, List.length_nil, Nat.zero_add]
theorem store_t (hF : 300 ≤ F) {z : St} (hL : Lay sh n z) (h : HC z H u s) {d v r : Nat} {E : List Ent} (t : Rep H d v E) (hd : d ≤ 40) (hr : r < 256) (hE : E.length ≤ 64) : ∃ z', fn_X1_store F sh n z 88 (nI v) 3 (nI r) = some (z', nI E.length) ∧ RowsC z' E (r * 64) ∧ FrT (r * 64) (r * 64 + E.length) z z' := by
  obtain ⟨z', q1, q2, q3⟩ := storeNode_t (F := F) (n := n) (sh := sh) hF d z v E (r * 64) 0 48 hL h t (by omega) (by omega) (by omega)
  have e64 : nI r * 64 = nI (r * 64) := pk_mul r 64
  refine ⟨z', ?_, q2, q3⟩
  unfold fn_X1_store
  rw [(b_heap hL).1, grd_true, e64, show (0 : Int32) = nI 0 from rfl, q1, cal_s]
  rw [Nat.add_comm (r * 64) E.length, ← nI_add, Int32.add_sub_cancel]
end
