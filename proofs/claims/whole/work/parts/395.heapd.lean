/-! the class's heap: chains -/
theorem chn_hd {z : St} {x : Int32} {cs : List Nat} (h : chn z x cs) : x = nI (hd0 cs) := by
  cases cs with
  | nil => rw [h]; rfl
  | cons c cs => exact h.1
theorem chn_drop {z : St} {cs : List Nat} (h : chn z (nI (hd0 cs)) cs) : ∀ m, chn z (nI (hd0 (cs.drop m))) (cs.drop m) := by
  intro m
  induction m generalizing cs with
  | zero => exact h
  | succ m ih =>
    cases cs with
    | nil => exact h
    | cons c cs =>
      have q := h.2.2.2
      rw [chn_hd q] at q
      exact ih q
theorem hd0_c (c : Nat) (cs : List Nat) : hd0 (c :: cs) = c := rfl
theorem lN_p1 (a : Nat) : lN (a + 1) - 1 = lN a := by
  have := lN_sub (a := a + 1) (b := 1) (by omega)
  rwa [Nat.add_sub_cancel] at this
theorem drop_c {cs : List Nat} {m : Nat} (h : m < cs.length) : cs.drop m = cs[m] :: cs.drop (m + 1) := List.drop_eq_getElem_cons h
theorem HC.lt {z : St} {H : Hp} {u : Nat} {s : Int32} (h : HC z H u s) {i : Nat} (q : (H i).1 ≠ 0) : 0 < i ∧ i < u ∧ i < 21600 := ⟨(h.2.2.2.2 i q).1, (h.2.2.2.2 i q).2.1, by have := (h.2.2.2.2 i q).2.1; have := h.2.2.1; omega⟩
theorem HC.kd {z : St} {H : Hp} {u : Nat} {s : Int32} (h : HC z H u s) {i : Nat} (q : (H i).1 ≠ 0) : z.1 89 i = nI (H i).1 := (h.2.2.2.2 i q).2.2.2.1.1
theorem HC.k11 {z : St} {H : Hp} {u : Nat} {s : Int32} (h : HC z H u s) {i : Nat} (q : (H i).1 ≠ 0) : (H i).1 < 11 := (h.2.2.2.2 i q).2.2.1
theorem HC.inr {z : St} {H : Hp} {u : Nat} {s : Int32} (h : HC z H u s) {i : Nat} (q : (H i).1 ≠ 0) (c : inn (H i).1) : z.2.1 91 i = lN (H i).2.2.2.length ∧ z.2.1 90 i = lN (hd0 (H i).2.2.2) ∧ chn z (nI (hd0 (H i).2.2.2)) (H i).2.2.2 ∧ (H i).2.2.2.length ≤ 256 := (h.2.2.2.2 i q).2.2.2.1.2.1 c
theorem HC.leaf {z : St} {H : Hp} {u : Nat} {s : Int32} (h : HC z H u s) {i : Nat} (q : (H i).1 ≠ 0) (c : ¬ inn (H i).1) : z.2.1 91 i = (H i).2.1 ∧ z.2.1 90 i = (H i).2.2.1 := (h.2.2.2.2 i q).2.2.2.1.2.2 c
theorem HC.cl {z : St} {H : Hp} {u : Nat} {s : Int32} (h : HC z H u s) {i : Nat} (q : (H i).1 ≠ 0) : ∀ c ∈ (H i).2.2.2, (H c).1 ≠ 0 := (h.2.2.2.2 i q).2.2.2.2
theorem HC.i1 {z : St} {H : Hp} {u : Nat} {s : Int32} (h : HC z H u s) {i : Nat} (q : (H i).1 ≠ 0) : okI (nI i) 21600 = true ∧ (nI i).toNatClampNeg = i := ⟨okI_nI (h.lt q).2.2 (by omega), nI_clamp (by have := (h.lt q).2.2; omega)⟩
theorem holds_i {F n : Nat} {sh : Nat → Nat × Nat} {z : St} {k : Nat} (h : inn k) : fn_X1_holdsOthers F sh n z (nI k) = some (z, 1) := by
  unfold fn_X1_holdsOthers
  rcases h with h | h
  · subst h; rw [if_pos ((nIe (x := 6) 6 rfl (by omega) (by omega)).mpr rfl)]
  · subst h; rw [if_neg (by decide), if_pos ((nIe (x := 7) 7 rfl (by omega) (by omega)).mpr rfl)]
theorem holds_n {F n : Nat} {sh : Nat → Nat × Nat} {z : St} {k : Nat} (hk : k < 11) (h : ¬ inn k) : fn_X1_holdsOthers F sh n z (nI k) = some (z, 0) := by
  unfold fn_X1_holdsOthers
  rw [if_neg (fun q => h (.inl ((nIe (x := 6) 6 rfl (by omega) (by omega)).mp q))), if_neg (fun q => h (.inr ((nIe (x := 7) 7 rfl (by omega) (by omega)).mp q)))]
theorem one0 : ¬ ((1 : Int32) = 0) := by decide
def ppS (z : St) (v c p l : Nat) : St := sl (sl (si z 92 c (nI p)) 90 v (lN c)) 91 v (lN l)
theorem prepend_t {F n : Nat} {sh : Nat → Nat × Nat} {z : St} {H : Hp} {u : Nat} {s : Int32} {v c : Nat} (hL : Lay sh n z) (h : HC z H u s) (hv : (H v).1 ≠ 0) (hi : inn (H v).1) (hc : (H c).1 ≠ 0) : fn_X1_prepend F sh n z 88 (nI v) (nI c) = some (ppS z v c (hd0 (H v).2.2.2) ((H v).2.2.2.length + 1), ()) := by
  obtain ⟨a1, a2, _, _⟩ := h.inr hv hi
  obtain ⟨b1, b2⟩ := h.i1 hv
  obtain ⟨c1, c2⟩ := h.i1 hc
  have e := nI_l (n := c) (by have := (h.lt hc).2.2; omega)
  have a7 : ¬ (nI c = 0) := nI_ne0 (h.lt hc).1 (by have := (h.lt hc).2.2; omega)
  have pb : fn_X1_prepend_B37 F sh n 88 (nI v) (nI c) z = some (ppS z v c (hd0 (H v).2.2.2) ((H v).2.2.2.length + 1), ()) := by
    unfold fn_X1_prepend_B37
    simp only [b_heap hL, grd_true, lnk_s, lt_t, si_1, si_2, si_3, sl_1, sl_2, sl_3, Nat.reduceEqDiff, ↓reduceIte, b1, b2, c1, c2, a1, a2, lN_i, e, lN_1, ppS]
  unfold fn_X1_prepend
  rw [if_neg a7]
  simp only [b_heap hL, grd_true, lnk_s, b1, b2, h.kd hv]
  rcases hi with q | q
  · rw [if_pos (by rw [q]; rfl), pb]
  · rw [if_neg (by rw [q]; decide), if_pos (by rw [q]; rfl), pb]
theorem pp_fr {z : St} {v c p l : Nat} : Fr 88 92 z (ppS z v c p l) := ((Fr.rfl'.si (by omega)).sl (by omega)).sl (by omega)
/-- c is a child of none -/
def rootH (H : Hp) (c : Nat) : Prop := ∀ i, (H i).1 ≠ 0 → c ∉ (H i).2.2.2
def setC (x : Nd) (cs : List Nat) : Nd := (x.1, x.2.1, x.2.2.1, cs)
theorem pp_H {z : St} {H : Hp} {u : Nat} {s : Int32} {v c : Nat} (h : HC z H u s) (hv : (H v).1 ≠ 0) (hi : inn (H v).1) (hc : (H c).1 ≠ 0) (hr : rootH H c) (hl : (H v).2.2.2.length < 256) : HC (ppS z v c (hd0 (H v).2.2.2) ((H v).2.2.2.length + 1)) (upH H v (setC (H v) (c :: (H v).2.2.2))) u s := by
  have al : ∀ i, (upH H v (setC (H v) (c :: (H v).2.2.2)) i).1 = (H i).1 := by
    intro i
    by_cases q : i = v
    · subst q; rw [upH_s]; rfl
    · rw [upH_n q]
  refine ⟨h.1, h.2.1, h.2.2.1, h.2.2.2.1, fun i q => ?_⟩
  rw [al] at q ⊢
  obtain ⟨a, b, b', ⟨d1, d2, d3⟩, d⟩ := h.2.2.2.2 i q
  by_cases e : i = v
  · subst e
    rw [upH_s]
    obtain ⟨q1, q2, q3, q4⟩ := d2 hi
    refine ⟨a, b, b', ⟨?_, fun _ => ⟨?_, ?_, ?_, ?_⟩, fun g => absurd hi g⟩, ?_⟩
    · exact d1
    · simp [ppS, sl_2, si_2, setC]
    · simp [ppS, sl_2, si_2, setC, hd0]
    · refine ⟨rfl, (h.lt hc).1, (h.lt hc).2.2, ?_⟩
      have : (ppS z i c (hd0 (H i).2.2.2) ((H i).2.2.2.length + 1)).1 92 c = nI (hd0 (H i).2.2.2) := by simp [ppS, sl_1, si_1]
      show chn _ ((ppS z i c (hd0 (H i).2.2.2) ((H i).2.2.2.length + 1)).1 92 c) _
      rw [this]
      refine chn_of q3 (fun x hx => ?_)
      have : x ≠ c := fun e => hr i q (e ▸ hx)
      simp [ppS, sl_1, si_1, this]
    · simp [setC]; omega
    · intro x hx
      rw [al]
      rcases List.mem_cons.mp hx with e | e
      · rw [e]; exact hc
      · exact d x e
  · rw [upH_n e]
    refine ⟨a, b, b', ⟨?_, fun g => ?_, fun g => ?_⟩, fun x hx => by rw [al]; exact d x hx⟩
    · exact d1
    · obtain ⟨q1, q2, q3, q4⟩ := d2 g
      refine ⟨by simp [ppS, sl_2, si_2, e]; exact q1, by simp [ppS, sl_2, si_2, e]; exact q2, chn_of q3 (fun x hx => ?_), q4⟩
      have : x ≠ c := fun e => hr i q (e ▸ hx)
      simp [ppS, sl_1, si_1, this]
    · obtain ⟨q1, q2⟩ := d3 g
      exact ⟨by simp [ppS, sl_2, si_2, e]; exact q1, by simp [ppS, sl_2, si_2, e]; exact q2⟩
def dtS (z : St) (v c p l : Nat) : St := si (sl (sl z 90 v (lN p)) 91 v (lN l)) 92 c 0
theorem detach_t {F n : Nat} {sh : Nat → Nat × Nat} {z : St} {H : Hp} {u : Nat} {s : Int32} {v c : Nat} {cs : List Nat} (hL : Lay sh n z) (h : HC z H u s) (hv : (H v).1 ≠ 0) (hi : inn (H v).1) (e : (H v).2.2.2 = c :: cs) : fn_X1_detach F sh n z 88 (nI v) = some (dtS z v c (hd0 cs) cs.length, nI c) := by
  obtain ⟨a1, a2, a3, a4⟩ := h.inr hv hi
  rw [e] at a1 a2 a3 a4
  have hc : (H c).1 ≠ 0 := h.cl hv c (by rw [e]; simp)
  obtain ⟨b1, b2⟩ := h.i1 hv
  obtain ⟨c1, c2⟩ := h.i1 hc
  have a5 := chn_hd a3.2.2.2
  have a6 : ¬ (lN (c :: cs).length ≤ 0) := fun q => by
    have := (lN_le (b := 0) (by omega) (by omega)).mp q
    simp at this
  have a7 : ¬ (lN c = 0) := fun q => by
    have := (pk_lEQ (b := 0) (by have := (h.lt hc).2.2; omega) (by omega)).mp q
    have := (h.lt hc).1
    omega
  have hcs : ∀ x ∈ cs, x < 21600 := fun x hx => (h.lt (h.cl hv x (by rw [e]; simp [hx]))).2.2
  have a8 : hd0 cs < 21600 := by
    cases cs with
    | nil => simp [hd0]
    | cons x xs => exact hcs x (by simp)
  have a9 := nI_l (n := hd0 cs) (by omega)
  have a10 : lN (c :: cs).length - 1 = lN cs.length := lN_p1 _
  unfold fn_X1_detach
  simp only [b_heap hL, grd_true, lnk_s, lt_t, b1, b2, h.kd hv, holds_i hi, cal_s, if_neg one0]
  simp only [b_heap hL, grd_true, lnk_s, lt_t, si_1, si_2, si_3, sl_1, sl_2, sl_3, Nat.reduceEqDiff, ↓reduceIte, b1, b2, a1, a2, lN_i, hd0_c, if_neg a6, if_neg a7, c1, c2, a5, a9, a10, dtS]
theorem dt_fr {z : St} {v c p l : Nat} : Fr 88 92 z (dtS z v c p l) := ((Fr.rfl'.sl (by omega)).sl (by omega)).si (by omega)
theorem dt_H {z : St} {H : Hp} {u : Nat} {s : Int32} {v c : Nat} {cs : List Nat} (h : HC z H u s) (hv : (H v).1 ≠ 0) (hi : inn (H v).1) (e : (H v).2.2.2 = c :: cs) (hr : ∀ i, (H i).1 ≠ 0 → i ≠ v → c ∉ (H i).2.2.2) (hn : c ∉ cs) : HC (dtS z v c (hd0 cs) cs.length) (upH H v (setC (H v) cs)) u s := by
  have al : ∀ i, (upH H v (setC (H v) cs) i).1 = (H i).1 := by
    intro i
    by_cases q : i = v
    · subst q; rw [upH_s]; rfl
    · rw [upH_n q]
  refine ⟨h.1, h.2.1, h.2.2.1, h.2.2.2.1, fun i q => ?_⟩
  rw [al] at q ⊢
  obtain ⟨a, b, b', ⟨d1, d2, d3⟩, d⟩ := h.2.2.2.2 i q
  by_cases g : i = v
  · subst g
    rw [upH_s]
    obtain ⟨q1, q2, q3, q4⟩ := d2 hi
    rw [e] at q1 q2 q3 q4 d
    refine ⟨a, b, b', ⟨?_, fun _ => ⟨?_, ?_, ?_, ?_⟩, fun g => absurd hi g⟩, ?_⟩
    · exact d1
    · simp [dtS, sl_2, si_2, setC]
    · simp [dtS, sl_2, si_2, setC]
    · have q5 := q3.2.2.2
      rw [chn_hd q5] at q5
      refine chn_of q5 (fun x hx => ?_)
      have : x ≠ c := fun e => hn (e ▸ hx)
      simp [dtS, sl_1, si_1, this]
    · simp only [setC, List.length_cons] at q4 ⊢; omega
    · intro x hx
      rw [al]
      exact d x (by simp only [setC] at hx; simp [hx])
  · rw [upH_n g]
    refine ⟨a, b, b', ⟨?_, fun f => ?_, fun f => ?_⟩, fun x hx => by rw [al]; exact d x hx⟩
    · exact d1
    · obtain ⟨q1, q2, q3, q4⟩ := d2 f
      refine ⟨by simp [dtS, sl_2, si_2, g]; exact q1, by simp [dtS, sl_2, si_2, g]; exact q2, chn_of q3 (fun x hx => ?_), q4⟩
      have : x ≠ c := fun e => hr i q g (e ▸ hx)
      simp [dtS, sl_1, si_1, this]
    · obtain ⟨q1, q2⟩ := d3 f
      exact ⟨by simp [dtS, sl_2, si_2, g]; exact q1, by simp [dtS, sl_2, si_2, g]; exact q2⟩
theorem childL_t {F n : Nat} {sh : Nat → Nat × Nat} {z : St} (hL : Lay sh n z) {cs : List Nat} (h : chn z (nI (hd0 cs)) cs) (hl : cs.length ≤ 256) {i : Nat} (hi : i < cs.length) : ∀ d m f, m + d + i + 1 = cs.length → d < f → fn_X1_child_L60 F sh n (lN i) 88 f z (nI (hd0 (cs.drop m))) (lN (cs.length - 1 - m)) = some (z, nI (hd0 (cs.drop (cs.length - 1 - i)))) := by
  intro d
  induction d with
  | zero =>
    intro m f e hf
    obtain ⟨g, rfl⟩ : ∃ g, f = g + 1 := ⟨f - 1, by omega⟩
    unfold fn_X1_child_L60
    rw [if_pos ((lN_le (by omega) (by omega)).mpr (by omega)), show cs.length - 1 - i = m by omega]
  | succ d ih =>
    intro m f e hf
    obtain ⟨g, rfl⟩ : ∃ g, f = g + 1 := ⟨f - 1, by omega⟩
    have hm : m < cs.length := by omega
    have q := chn_drop h m
    rw [drop_c hm] at q ⊢
    obtain ⟨_, q2, q3, q4⟩ := q
    have q5 := chn_hd q4
    have e1 : lN (cs.length - 1 - m) - 1 = lN (cs.length - 1 - (m + 1)) := by
      rw [show cs.length - 1 - m = cs.length - 1 - (m + 1) + 1 by omega, lN_p1]
    unfold fn_X1_child_L60
    rw [if_neg (fun q => by have := (lN_le (by omega) (by omega)).mp q; omega)]
    rw [hd0_c, if_neg (nI_ne0 q2 (by omega))]
    simp only [b_heap hL, grd_true, lnk_s, lt_t, okI_nI q3 (by omega), nI_clamp (n := cs[m]) (by omega), q5, e1]
    exact ih (m + 1) g (by omega) (by omega)
theorem child_t {F n : Nat} {sh : Nat → Nat × Nat} {z : St} {H : Hp} {u : Nat} {s : Int32} {v i : Nat} (hF : 300 ≤ F) (hL : Lay sh n z) (h : HC z H u s) (hv : (H v).1 ≠ 0) (hi : inn (H v).1) (hl : i < (H v).2.2.2.length) : fn_X1_child F sh n z 88 (nI v) (lN i) = some (z, nI (hd0 ((H v).2.2.2.drop ((H v).2.2.2.length - 1 - i)))) := by
  obtain ⟨a1, a2, a3, a4⟩ := h.inr hv hi
  obtain ⟨b1, b2⟩ := h.i1 hv
  have e : lN (H v).2.2.2.length - 1 = lN ((H v).2.2.2.length - 1) := by
    rw [show (H v).2.2.2.length = (H v).2.2.2.length - 1 + 1 by omega, lN_p1]; rfl
  have i0 : ¬ (lN i < 0) := fun q => by
    have := (pk_lLT (b := 0) (by omega) (by omega)).mp q
    omega
  have i1 : lN i < lN (H v).2.2.2.length := (pk_lLT (by omega) (by omega)).mpr hl
  unfold fn_X1_child
  simp only [b_heap hL, grd_true, lnk_s, b1, b2, h.kd hv, holds_i hi, cal_s, if_neg one0]
  rw [if_neg i0]
  simp only [b_heap hL, grd_true, lnk_s, lt_t, b1, b2, a1]
  rw [if_pos i1]
  simp only [b_heap hL, grd_true, lnk_s, lt_t, b1, b2, a1, a2, lN_i, e]
  have := childL_t (F := F) hL a3 a4 hl ((H v).2.2.2.length - 1 - i) 0 F (by omega) (by omega)
  exact this
def kidN (cs : List Nat) (i : Nat) : Nat := hd0 (cs.drop (cs.length - 1 - i))
theorem kidN_mem {cs : List Nat} {i : Nat} (h : i < cs.length) : kidN cs i ∈ cs := by
  unfold kidN
  rw [drop_c (by omega)]
  exact List.getElem_mem _
