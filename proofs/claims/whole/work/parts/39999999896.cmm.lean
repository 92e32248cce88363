/-! THE CLASS'S MACHINE: rows of values (52 .. 58) -/
theorem lN_N (x : Int64) : lN (N x) = x := by
  apply N_inj
  unfold N lN
  simp
theorem N_lN {k : Nat} (h : k < 2 ^ 63) : N (lN k) = k := lN_nat h
theorem below_no {x : Int64} {l : Nat} (hl : l < 2 ^ 63) (h : ∀ j, j < l → x ≠ lN j) : ¬ N x < N (lN l) := by
  intro q
  rw [N_lN hl] at q
  exact h (N x) q (lN_N x).symm
theorem below_yes {j l : Nat} (hl : l < 2 ^ 63) (h : j < l) : N (lN j) < N (lN l) := by
  rw [N_lN hl, N_lN (by omega)]
  exact h
section
variable {F n : Nat} {sh : Nat → Nat × Nat} {z z' : St} {pk : Nat → Nat} {kt : Nat} {H : Hp} {m : Nat} {sl0 : Int32} {fr : Nat → Fm} {cs cl : Nat → Nat → Nat} {nf g lim : Nat}
theorem CM.peek (h : CM sh n z pk kt H m sl0 fr cs cl nf g lim) {b : Nat} (hb : b < (fr (nf - 1)).2.2.1.1) : fn_X4_peek F sh n z 87 (nI b) = some (z, nI (cs (nf - 1) ((fr (nf - 1)).2.2.1.1 - 1 - b))) := by
  obtain ⟨t1, t2, t3⟩ := h.t0
  obtain ⟨b1, b2, b3, b4, b5, b6, b7⟩ := h.2.2.1.2.2.2 (nf - 1) (by have := h.2.2.1.2.1; omega)
  have n32 := h.2.2.1.2.2.1
  have n0 := h.2.2.1.2.1
  have oi : okA sh n 101 101 (nI (nf - 1)) = true := by rw [lay_a h.1 101 101 32 (by decide) rfl]; exact okI_nI (by omega) (by omega)
  have es : nI (fr (nf - 1)).2.2.1.1 - 1 - nI b = nI ((fr (nf - 1)).2.2.1.1 - 1 - b) := by
    have e1 : nI (fr (nf - 1)).2.2.1.1 - 1 = nI ((fr (nf - 1)).2.2.1.1 - 1) := pk_sub (a := (fr (nf - 1)).2.2.1.1) (b := 1) (by omega)
    rw [e1, pk_sub (by omega)]
  have ei : nI (nf - 1) * 64 + nI ((fr (nf - 1)).2.2.1.1 - 1 - b) = nI ((nf - 1) * 64 + ((fr (nf - 1)).2.2.1.1 - 1 - b)) := by rw [show (64 : Int32) = nI 64 from rfl, pk_mul, nI_add]
  have o2 : okA sh n 103 101 (nI ((nf - 1) * 64 + ((fr (nf - 1)).2.2.1.1 - 1 - b))) = true := by rw [lay_a h.1 103 101 2048 (by decide) rfl]; exact okI_nI (by omega) (by omega)
  unfold fn_X4_peek
  rw [(b_mach h.1).1, grd_true, h.1.2.2 87 9 101 rfl, lnk_s, t1, oi, grd_true, t3, b5, es, lt_t, if_pos (nI_pos' (by omega)), h.1.2.2 87 11 103 rfl, lnk_s, ei, o2, grd_true, nI_clamp (by omega), b6 _ (by omega)]
/-- what 53 .. 58 begin with -/
theorem CM.vec (h : CM sh n z pk kt H m sl0 fr cs cl nf g lim) {b r t : Nat} (hb : b < (fr (nf - 1)).2.2.1.1) (er : cs (nf - 1) ((fr (nf - 1)).2.2.1.1 - 1 - b) = r) (hr : (H r).1 = 8) (ht : (H r).2.2.1 = lN t) (h0 : 0 < t) (ht2 : t < 2 ^ 31) (hk : (H t).1 = 7) {x0 : Int32} : fn_X4_lineUp_B49 F sh n 87 x0 z (nI b) = (if (x0 : Int32) = 53 then cal (fn_X4_pop F sh n z 87) (fun z_28 r_29 => cal (fn_X4_pushNumber F sh n z_28 87 3 0 (lN (H t).2.2.2.length)) (fun z_31 _ => some (z_31, ()))) else if (x0 : Int32) = 56 then cal (fn_X4_append F sh n z 87 (nI t) (lN (H t).2.2.2.length)) (fun z_26 _ => some (z_26, ())) else if (x0 : Int32) = 57 then cal (fn_X4_removeLast F sh n z 87 (nI t) (lN (H t).2.2.2.length)) (fun z_24 _ => some (z_24, ())) else if (x0 : Int32) = 58 then cal (fn_X4_exchange F sh n z 87 (nI t) (lN (H t).2.2.2.length)) (fun z_22 _ => some (z_22, ())) else cal (fn_X4_borrowElement F sh n z 87 (nI t) (lN (H t).2.2.2.length)) (fun z_20 _ => some (z_20, ()))) := by
  have pe := h.peek (F := F) hb
  rw [er] at pe
  have ta := h.target (F := F) hr ht h0 ht2
  have al : (H t).1 ≠ 0 := by omega
  obtain ⟨b1, b2⟩ := h.2.1.i1 al
  have il := (h.2.1.inr al (by unfold inn; omega)).1
  have hp := b_heap h.1
  have o2 : okA sh n 91 102 (nI t) = true := by rw [lay_a h.1 91 102 21600 (by decide) rfl]; exact b1
  have o9 : okA sh n 89 100 (nI t) = true := by rw [lay_a h.1 89 100 21600 (by decide) rfl]; exact b1
  unfold fn_X4_lineUp_B49
  rw [(b_mach h.1).1, grd_true, pe, cal_s, ta, cal_s, h.1.2.2 87 1 88 rfl, lnk_s, hp.1, grd_true, hp.2.1, lnk_s, o9, grd_true, b2, h.2.1.kd al, hk, if_pos (by rfl)]
  unfold fn_X4_lineUp_B93
  rw [h.1.2.2 87 1 88 rfl, lnk_s, hp.1, grd_true, hp.2.2.2.1, lnk_s, o2, grd_true, b2, il, lt_t]
/-- 53 -/
theorem CM.v53 (h : CM sh n z pk kt H m sl0 fr cs cl nf g lim) {r t : Nat} (h1 : 1 ≤ (fr (nf - 1)).2.2.1.1) (er : cs (nf - 1) ((fr (nf - 1)).2.2.1.1 - 1) = r) (hr : (H r).1 = 8) (ht : (H r).2.2.1 = lN t) (h0 : 0 < t) (ht2 : t < 2 ^ 31) (hk : (H t).1 = 7) (hm : m < 21600) (s : Sl) {x1 : Int32} : ∃ z', fn_X4_lineUp F sh n z 87 53 x1 = some (z', ()) ∧ CM sh n z' pk kt (upH H m (3, 0, lN (H t).2.2.2.length, [])) (m + 1) sl0 (setF fr (nf - 1) (pshV (setH (fr (nf - 1)) ((fr (nf - 1)).2.2.1.1 - 1)) s)) (up2 cs (nf - 1) ((fr (nf - 1)).2.2.1.1 - 1) m) cl nf g lim ∧ FrC z z' := by
  obtain ⟨b1, _⟩ := h.2.2.1.2.2.2 (nf - 1) (by have := h.2.2.1.2.1; omega)
  obtain ⟨z1, p1, p2, p3⟩ := h.pop (F := F) h1
  obtain ⟨z2, q1, q2, q3⟩ := p2.make (F := F) (by rw [setF_s, setH_T]; omega) hm (k := 3) (x := 0) (y := lN (H t).2.2.2.length) (by omega) (by unfold inn; omega) s
  rw [setF_s, setF_2, setH_T] at q2
  refine ⟨z2, ?_, q2, p3.trans q3⟩
  unfold fn_X4_lineUp
  rw [if_neg (by decide), if_pos rfl]
  unfold fn_X4_lineUp_B34
  rw [show (0 : Int32) = nI 0 from rfl, h.vec (F := F) (b := 0) (by omega) er hr ht h0 ht2 hk, if_pos rfl, p1, cal_s, show (3 : Int32) = nI 3 from rfl, q1, cal_s]
/-- 56 -/
theorem CM.v56 (h : CM sh n z pk kt H m sl0 fr cs cl nf g lim) {r t v : Nat} (h2 : 2 ≤ (fr (nf - 1)).2.2.1.1) (er : cs (nf - 1) ((fr (nf - 1)).2.2.1.1 - 2) = r) (ev : cs (nf - 1) ((fr (nf - 1)).2.2.1.1 - 1) = v) (hr : (H r).1 = 8) (ht : (H r).2.2.1 = lN t) (h0 : 0 < t) (ht2 : t < 2 ^ 31) (hk : (H t).1 = 7) (hv : (H v).1 ≠ 0) (rt : rootH H v) {x1 : Int32} : ((H t).2.2.2.length = 256 → ∃ z', fn_X4_lineUp F sh n z 87 56 x1 = some (z', ()) ∧ CE sh n z' 2 4 g sl0 ∧ FrC z z') ∧ ((H t).2.2.2.length < 256 → ∃ z', fn_X4_lineUp F sh n z 87 56 x1 = some (z', ()) ∧ CM sh n z' pk kt (upH H t (setC (H t) (v :: (H t).2.2.2))) m sl0 (setF fr (nf - 1) (setH (fr (nf - 1)) ((fr (nf - 1)).2.2.1.1 - 2))) cs cl nf g lim ∧ FrC z z') := by
  have e0 : fn_X4_lineUp F sh n z 87 56 x1 = cal (fn_X4_append F sh n z 87 (nI t) (lN (H t).2.2.2.length)) (fun z_26 _ => some (z_26, ())) := by
    unfold fn_X4_lineUp
    rw [if_neg (by decide), if_neg (by decide), if_neg (by decide), if_neg (by decide), show (1 : Int32) = nI 1 from rfl, h.vec (F := F) (b := 1) (by omega) (by rw [← er]; congr 1) hr ht h0 ht2 hk, if_neg (by decide), if_pos rfl]
  have al : (H t).1 ≠ 0 := by omega
  constructor
  · intro hl
    obtain ⟨z1, p1, p2, p3⟩ := h.fin (F := F) 2 4
    refine ⟨z1, ?_, p2, p3⟩
    rw [e0]
    unfold fn_X4_append
    rw [hl, if_neg (by decide), (b_mach h.1).1, grd_true, show (2 : Int32) = nI 2 from rfl, p1, cal_s, cal_s]
  · intro hl
    obtain ⟨z1, p1, p2, p3⟩ := h.pop (F := F) (by omega)
    rw [ev] at p1
    have pt := prepend_t (F := F) p2.1 p2.2.1 al (by unfold inn; omega) hv
    have pH := pp_H p2.2.1 al (by unfold inn; omega) hv rt hl
    obtain ⟨w1, w2⟩ := p2.heap pp_fr pH
    obtain ⟨z3, q1, q2, q3⟩ := w1.pop (F := F) (by rw [setF_s, setH_T]; omega)
    have e21 : (fr (nf - 1)).2.2.1.1 - 1 - 1 = (fr (nf - 1)).2.2.1.1 - 2 := by omega
    rw [setF_s, setH_T, e21, setF_2] at q2
    refine ⟨z3, ?_, q2, (p3.trans w2).trans q3⟩
    rw [e0]
    unfold fn_X4_append
    rw [if_pos ((lNlt (x := 256) 256 rfl (by omega) (by omega)).mpr hl), (b_mach h.1).1, grd_true, h.1.2.2 87 1 88 rfl, lnk_s, p1, cal_s, (b_heap h.1).1, grd_true, pt, cal_s, q1, cal_s, cal_s]
/-- 57 -/
theorem CM.v57 (h : CM sh n z pk kt H m sl0 fr cs cl nf g lim) {r t : Nat} (h1 : 1 ≤ (fr (nf - 1)).2.2.1.1) (er : cs (nf - 1) ((fr (nf - 1)).2.2.1.1 - 1) = r) (hr : (H r).1 = 8) (ht : (H r).2.2.1 = lN t) (h0 : 0 < t) (ht2 : t < 2 ^ 31) (hk : (H t).1 = 7) {x1 : Int32} : ((H t).2.2.2 = [] → ∃ z', fn_X4_lineUp F sh n z 87 57 x1 = some (z', ()) ∧ CE sh n z' 2 2 g sl0 ∧ FrC z z') ∧ (∀ c ks, (H t).2.2.2 = c :: ks → (∀ i, (H i).1 ≠ 0 → i ≠ t → c ∉ (H i).2.2.2) → c ∉ ks → ∀ s : Sl, ∃ z', fn_X4_lineUp F sh n z 87 57 x1 = some (z', ()) ∧ CM sh n z' pk kt (upH H t (setC (H t) ks)) m sl0 (setF fr (nf - 1) (pshV (setH (fr (nf - 1)) ((fr (nf - 1)).2.2.1.1 - 1)) s)) (up2 cs (nf - 1) ((fr (nf - 1)).2.2.1.1 - 1) c) cl nf g lim ∧ FrC z z') := by
  obtain ⟨b1, _⟩ := h.2.2.1.2.2.2 (nf - 1) (by have := h.2.2.1.2.1; omega)
  have e0 : fn_X4_lineUp F sh n z 87 57 x1 = cal (fn_X4_removeLast F sh n z 87 (nI t) (lN (H t).2.2.2.length)) (fun z_26 _ => some (z_26, ())) := by
    unfold fn_X4_lineUp
    rw [if_neg (by decide), if_neg (by decide), if_pos rfl]
    unfold fn_X4_lineUp_B34
    rw [show (0 : Int32) = nI 0 from rfl, h.vec (F := F) (b := 0) (by omega) er hr ht h0 ht2 hk, if_neg (by decide), if_neg (by decide), if_pos rfl]
  have al : (H t).1 ≠ 0 := by omega
  constructor
  · intro hl
    obtain ⟨z1, p1, p2, p3⟩ := h.fin (F := F) 2 2
    refine ⟨z1, ?_, p2, p3⟩
    rw [e0, hl]
    unfold fn_X4_removeLast
    rw [if_pos (show lN ([] : List Nat).length = 0 from rfl), (b_mach h.1).1, grd_true, show (2 : Int32) = nI 2 from rfl, p1, cal_s, cal_s]
  · intro c ks hc own hn s
    have hlen := (h.2.1.inr al (by unfold inn; omega)).2.2.2
    have hpos : 0 < (H t).2.2.2.length := by rw [hc]; simp
    obtain ⟨z1, p1, p2, p3⟩ := h.pop (F := F) (by omega)
    have pt := detach_t (F := F) p2.1 p2.2.1 al (by unfold inn; omega) hc
    have pH := dt_H p2.2.1 al (by unfold inn; omega) hc own hn
    obtain ⟨w1, w2⟩ := p2.heap dt_fr pH
    obtain ⟨z3, q1, q2, q3⟩ := w1.push (F := F) (by rw [setF_s, setH_T]; omega) s c
    rw [setF_s, setF_2, setH_T] at q2
    refine ⟨z3, ?_, q2, (p3.trans w2).trans q3⟩
    rw [e0]
    unfold fn_X4_removeLast
    rw [if_neg (fun q => by have := (lNe (x := 0) 0 rfl (by omega) (by omega)).mp q; omega), (b_mach h.1).1, grd_true, p1, cal_s, p2.1.2.2 87 1 88 rfl, lnk_s, (b_heap h.1).1, grd_true, pt, cal_s, q1, cal_s, cal_s]
/-- 54, 55: hH by RC.point -/
theorem CM.v54 (hF : 300 ≤ F) (h : CM sh n z pk kt H m sl0 fr cs cl nf g lim) {o r t v : Nat} (ho : o = 54 ∨ o = 55) (h2 : 2 ≤ (fr (nf - 1)).2.2.1.1) (er : cs (nf - 1) ((fr (nf - 1)).2.2.1.1 - 2) = r) (ev : cs (nf - 1) ((fr (nf - 1)).2.2.1.1 - 1) = v) (hr : (H r).1 = 8) (ht : (H r).2.2.1 = lN t) (h0 : 0 < t) (ht2 : t < 2 ^ 31) (hk : (H t).1 = 7) (hv : (H v).1 = 3) {x1 : Int32} : ((∀ j, j < (H t).2.2.2.length → (H v).2.2.1 ≠ lN j) → ∃ z', fn_X4_lineUp F sh n z 87 (nI o) x1 = some (z', ()) ∧ CE sh n z' 2 2 g sl0 ∧ FrC z z') ∧ (∀ i c H', i < (H t).2.2.2.length → (H v).2.2.1 = lN i → hd0 ((H t).2.2.2.drop ((H t).2.2.2.length - 1 - i)) = c → c < 2 ^ 31 → (∀ z1, HC z1 H m sl0 → HC (sl z1 90 r (lN c)) H' m sl0) → ∀ s : Sl, ∃ z', fn_X4_lineUp F sh n z 87 (nI o) x1 = some (z', ()) ∧ CM sh n z' pk kt H' m sl0 (setF fr (nf - 1) (pshV (setH (fr (nf - 1)) ((fr (nf - 1)).2.2.1.1 - 2)) s)) (up2 cs (nf - 1) ((fr (nf - 1)).2.2.1.1 - 2) r) cl nf g lim ∧ FrC z z') := by
  obtain ⟨b1, _⟩ := h.2.2.1.2.2.2 (nf - 1) (by have := h.2.2.1.2.1; omega)
  have ne : ∀ (x : Nat) (y : Int32), y = nI x → x < 54 ∨ 55 < x → x < 2 ^ 31 → ¬ nI o = y := fun x y hy h1 h2 q => by rw [hy] at q; have := (nI_ij (a := o) (b := x) (by omega) h2).mp q; omega
  have e0 : fn_X4_lineUp F sh n z 87 (nI o) x1 = cal (fn_X4_borrowElement F sh n z 87 (nI t) (lN (H t).2.2.2.length)) (fun z_26 _ => some (z_26, ())) := by
    unfold fn_X4_lineUp
    rw [if_neg (ne 52 52 rfl (by omega) (by omega)), if_neg (ne 53 53 rfl (by omega) (by omega)), if_neg (ne 57 57 rfl (by omega) (by omega)), if_neg (ne 58 58 rfl (by omega) (by omega)), show (1 : Int32) = nI 1 from rfl, h.vec (F := F) (b := 1) (by omega) (by rw [← er]; congr 1) hr ht h0 ht2 hk, if_neg (ne 53 53 rfl (by omega) (by omega)), if_neg (ne 56 56 rfl (by omega) (by omega)), if_neg (ne 57 57 rfl (by omega) (by omega)), if_neg (ne 58 58 rfl (by omega) (by omega))]
  have al : (H t).1 ≠ 0 := by omega
  have hlen := (h.2.1.inr al (by unfold inn; omega)).2.2.2
  obtain ⟨z1, p1, p2, p3⟩ := h.popOf (F := F) (by omega) (k := 3) (x := 3) rfl (by rw [ev]; exact hv) (by omega)
  rw [ev] at p1
  have vl : (H v).1 ≠ 0 := by omega
  obtain ⟨v1, v2⟩ := p2.2.1.i1 vl
  have lf := (p2.2.1.leaf vl (by unfold inn; omega)).2
  have o2 : okA sh n 90 102 (nI v) = true := by rw [lay_a h.1 90 102 21600 (by decide) rfl]; exact v1
  have hp := b_heap h.1
  have hp2 := b_heap p2.1
  constructor
  · intro hl
    obtain ⟨z2, q1, q2, q3⟩ := p2.fin (F := F) 2 2
    refine ⟨z2, ?_, q2, p3.trans q3⟩
    rw [e0]
    unfold fn_X4_borrowElement
    rw [(b_mach h.1).1, grd_true, h.1.2.2 87 1 88 rfl, lnk_s, hp.1, grd_true, hp.2.2.1, lnk_s, p1, cal_s, o2, grd_true, v2, lf, lt_t, below_t, cal_s, if_neg (below_no (by omega) hl), if_pos rfl, show (2 : Int32) = nI 2 from rfl, q1, cal_s, cal_s]
  · intro i c H' hi hvi hc hc2 hH s
    obtain ⟨z2, q1, q2, q3⟩ := p2.pop (F := F) (by rw [setF_s, setH_T]; omega)
    have e21 : (fr (nf - 1)).2.2.1.1 - 1 - 1 = (fr (nf - 1)).2.2.1.1 - 2 := by omega
    rw [setF_s, setH_T, e21, setF_2] at q2
    rw [setF_s, setH_T, e21, er] at q1
    have ch := child_t (F := F) hF q2.1 q2.2.1 al (by unfold inn; omega) hi
    rw [hc] at ch
    have f1 : Fr 88 92 z2 (sl z2 90 r (lN c)) := Fr.rfl'.sl (by omega)
    obtain ⟨w1, w2⟩ := q2.heap f1 (hH z2 q2.2.1)
    obtain ⟨z3, s1, s2, s3⟩ := w1.push (F := F) (by rw [setF_s, setH_T]; omega) s r
    rw [setF_s, setF_2, setH_T] at s2
    refine ⟨z3, ?_, s2, ((p3.trans q3).trans w2).trans s3⟩
    have ral : (H r).1 ≠ 0 := by omega
    obtain ⟨r1, r2⟩ := q2.2.1.i1 ral
    have o3 : okA sh n 90 102 (nI r) = true := by rw [lay_a h.1 90 102 21600 (by decide) rfl]; exact r1
    rw [e0]
    unfold fn_X4_borrowElement
    rw [(b_mach h.1).1, grd_true, h.1.2.2 87 1 88 rfl, lnk_s, hp.1, grd_true, hp.2.2.1, lnk_s, p1, cal_s, o2, grd_true, v2, lf, hvi, lt_t, below_t, cal_s, if_pos (below_yes (by omega) hi), if_neg one0, q1, cal_s, q2.1.2.2 87 1 88 rfl, lnk_s, hp.1, grd_true, (b_heap q2.1).2.2.1, lnk_s, lnk_s, hp.1, grd_true, ch, cal_s, o3, grd_true, r2, nI_l hc2, lt_t, s1, cal_s, cal_s]
/-- 58 -/
theorem CM.v58 (hF : 300 ≤ F) (h : CM sh n z pk kt H m sl0 fr cs cl nf g lim) {r t x y : Nat} (h3 : 3 ≤ (fr (nf - 1)).2.2.1.1) (er : cs (nf - 1) ((fr (nf - 1)).2.2.1.1 - 3) = r) (ex : cs (nf - 1) ((fr (nf - 1)).2.2.1.1 - 1) = x) (ey : cs (nf - 1) ((fr (nf - 1)).2.2.1.1 - 2) = y) (hr : (H r).1 = 8) (ht : (H r).2.2.1 = lN t) (h0 : 0 < t) (ht2 : t < 2 ^ 31) (hk : (H t).1 = 7) (hx : (H x).1 = 3) (hy : (H y).1 = 3) {x1 : Int32} : (((∀ j, j < (H t).2.2.2.length → (H x).2.2.1 ≠ lN j) ∨ (∀ j, j < (H t).2.2.2.length → (H y).2.2.1 ≠ lN j)) → ∃ z', fn_X4_lineUp F sh n z 87 58 x1 = some (z', ()) ∧ CE sh n z' 2 2 g sl0 ∧ FrC z z') ∧ (∀ i j a b, i < (H t).2.2.2.length → j < (H t).2.2.2.length → (H x).2.2.1 = lN i → (H y).2.2.1 = lN j → hd0 ((H t).2.2.2.drop ((H t).2.2.2.length - 1 - i)) = a → hd0 ((H t).2.2.2.drop ((H t).2.2.2.length - 1 - j)) = b → (H a).1 ≠ 0 → (H b).1 ≠ 0 → ∃ z', fn_X4_lineUp F sh n z 87 58 x1 = some (z', ()) ∧ CM sh n z' pk kt (upH (upH H a (H b)) b (H a)) m sl0 (setF fr (nf - 1) (setH (fr (nf - 1)) ((fr (nf - 1)).2.2.1.1 - 3))) cs cl nf g lim ∧ FrC z z') := by
  have e0 : fn_X4_lineUp F sh n z 87 58 x1 = cal (fn_X4_exchange F sh n z 87 (nI t) (lN (H t).2.2.2.length)) (fun z_26 _ => some (z_26, ())) := by
    unfold fn_X4_lineUp
    rw [if_neg (by decide), if_neg (by decide), if_neg (by decide), if_pos rfl, show (2 : Int32) = nI 2 from rfl, h.vec (F := F) (b := 2) (by omega) (by rw [← er]; congr 1) hr ht h0 ht2 hk, if_neg (by decide), if_neg (by decide), if_neg (by decide), if_pos rfl]
  have al : (H t).1 ≠ 0 := by omega
  have hlen := (h.2.1.inr al (by unfold inn; omega)).2.2.2
  have e21 : (fr (nf - 1)).2.2.1.1 - 1 - 1 = (fr (nf - 1)).2.2.1.1 - 2 := by omega
  obtain ⟨z1, p1, p2, p3⟩ := h.popOf (F := F) (by omega) (k := 3) (x := 3) rfl (by rw [ex]; exact hx) (by omega)
  obtain ⟨z2, q1, q2, q3⟩ := p2.popOf (F := F) (by rw [setF_s, setH_T]; omega) (k := 3) (x := 3) rfl (by rw [setF_s, setH_T, e21, ey]; exact hy) (by omega)
  rw [setF_s, setH_T, e21, setF_2] at q2
  rw [setF_s, setH_T, e21, ey] at q1
  rw [ex] at p1
  have xl : (H x).1 ≠ 0 := by omega
  obtain ⟨v1, v2⟩ := p2.2.1.i1 xl
  have lfx := (p2.2.1.leaf xl (by unfold inn; omega)).2
  have ox : okA sh n 90 102 (nI x) = true := by rw [lay_a h.1 90 102 21600 (by decide) rfl]; exact v1
  have yl : (H y).1 ≠ 0 := by omega
  obtain ⟨y1, y2⟩ := q2.2.1.i1 yl
  have lfy := (q2.2.1.leaf yl (by unfold inn; omega)).2
  have oy : okA sh n 90 102 (nI y) = true := by rw [lay_a h.1 90 102 21600 (by decide) rfl]; exact y1
  have hp := b_heap h.1
  have hp2 := b_heap p2.1
  constructor
  · intro hl
    obtain ⟨z3, s1, s2, s3⟩ := q2.fin (F := F) 2 2
    refine ⟨z3, ?_, s2, (p3.trans q3).trans s3⟩
    rw [e0]
    unfold fn_X4_exchange
    rw [(b_mach h.1).1, grd_true, h.1.2.2 87 1 88 rfl, lnk_s, hp.1, grd_true, hp.2.2.1, lnk_s, p1, cal_s, ox, grd_true, v2, lfx, lt_t, p2.1.2.2 87 1 88 rfl, lnk_s, hp.1, grd_true, hp2.2.2.1, lnk_s, q1, cal_s, oy, grd_true, y2, lfy, lt_t, below_t, cal_s]
    by_cases c : N (H x).2.2.1 < N (lN (H t).2.2.2.length)
    · have c2 : ¬ N (H y).2.2.1 < N (lN (H t).2.2.2.length) := by
        rcases hl with hl | hl
        · exact absurd c (below_no (by omega) hl)
        · exact below_no (by omega) hl
      rw [if_pos c, if_neg one0, below_t, cal_s, if_neg c2, if_pos rfl, show (2 : Int32) = nI 2 from rfl, s1, cal_s, cal_s]
    · rw [if_neg c, if_pos rfl, show (2 : Int32) = nI 2 from rfl, s1, cal_s, cal_s]
  · intro i j a b hi hj hxi hyj ha hb haa hbb
    obtain ⟨z3, s1, s2, s3⟩ := q2.pop (F := F) (by rw [setF_s, setH_T]; omega)
    have e31 : (fr (nf - 1)).2.2.1.1 - 2 - 1 = (fr (nf - 1)).2.2.1.1 - 3 := by omega
    rw [setF_s, setH_T, e31, setF_2] at s2
    have chi := child_t (F := F) hF s2.1 s2.2.1 al (by unfold inn; omega) hi
    rw [ha] at chi
    have chj := child_t (F := F) hF s2.1 s2.2.1 al (by unfold inn; omega) hj
    rw [hb] at chj
    have sw := swap_t (F := F) s2.1 s2.2.1 haa hbb
    obtain ⟨w1, w2⟩ := s2.heap sw_fr (sw_H s2.2.1 haa hbb)
    refine ⟨_, ?_, w1, ((p3.trans q3).trans s3).trans w2⟩
    rw [e0]
    unfold fn_X4_exchange
    rw [(b_mach h.1).1, grd_true, h.1.2.2 87 1 88 rfl, lnk_s, hp.1, grd_true, hp.2.2.1, lnk_s, p1, cal_s, ox, grd_true, v2, lfx, lt_t, p2.1.2.2 87 1 88 rfl, lnk_s, hp.1, grd_true, hp2.2.2.1, lnk_s, q1, cal_s, oy, grd_true, y2, lfy, lt_t, below_t, cal_s, hxi, hyj, if_pos (below_yes (by omega) hi), if_neg one0, below_t, cal_s, if_pos (below_yes (by omega) hj), if_neg one0, s1, cal_s, s2.1.2.2 87 1 88 rfl, lnk_s, lnk_s, hp.1, grd_true, chi, cal_s, s2.1.2.2 87 1 88 rfl, lnk_s, hp.1, grd_true, chj, cal_s, grd_true, sw, cal_s, cal_s]
/-- 52 -/
theorem CM.v52 (hF : 300 ≤ F) (h : CM sh n z pk kt H m sl0 fr cs cl nf g lim) {ws : List Nat} {a : Nat} (hm : m < 21600) (hw : ∀ i (hi : i < ws.length), cs (nf - 1) (a + i) = ws[i]) (ha : (fr (nf - 1)).2.2.1.1 = a + ws.length) (h64 : a < 64) (nd : ws.Nodup) (al : ∀ w, w ∈ ws → (H w).1 ≠ 0) (rt : ∀ w, w ∈ ws → rootH H w) (s : Sl) : (lim < g + ws.length → ∃ z', fn_X4_lineUp F sh n z 87 52 (nI ws.length) = some (z', ()) ∧ CE sh n z' 2 5 lim sl0 ∧ FrC z z') ∧ (g + ws.length ≤ lim → ∃ z', fn_X4_lineUp F sh n z 87 52 (nI ws.length) = some (z', ()) ∧ CM sh n z' pk kt (upH H m (7, 0, 0, ws.reverse)) (m + 1) sl0 (setF fr (nf - 1) (pshV (setH (fr (nf - 1)) a) s)) (up2 cs (nf - 1) a m) cl nf (g + ws.length) lim ∧ FrC z z') := by
  obtain ⟨b1, _⟩ := h.2.2.1.2.2.2 (nf - 1) (by have := h.2.2.1.2.1; omega)
  constructor
  · intro hg
    obtain ⟨z1, p1, p2, p3⟩ := h.payE (F := F) hg (by omega)
    refine ⟨z1, ?_, p2, p3⟩
    unfold fn_X4_lineUp
    rw [if_pos rfl, (b_mach h.1).1, grd_true, p1, cal_s, if_pos rfl]
  · intro hg
    obtain ⟨z1, p1, p2, p3⟩ := h.pay (F := F) hg
    obtain ⟨z2, q1, q2, q3⟩ := p2.gather (F := F) hF (k := 7) (Or.inr rfl) hm hw ha h64 nd al rt s
    refine ⟨z2, ?_, q2, p3.trans q3⟩
    unfold fn_X4_lineUp
    rw [if_pos rfl, (b_mach h.1).1, grd_true, p1, cal_s, if_neg one0, show (7 : Int32) = nI 7 from rfl, q1, cal_s]
end
