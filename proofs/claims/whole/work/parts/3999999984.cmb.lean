/-! THE CLASS'S MACHINE: primitives. kt: the transaction, sl: the heap's slips -/
/-- what a step leaves alone, links but for the frames' programs -/
def FrC (z z' : St) : Prop := z'.2.2 = z.2.2 ∧ (∀ k, k ≠ 87 → ¬ (88 ≤ k ∧ k ≤ 92) → ¬ (99 ≤ k ∧ k ≤ 103) → z'.1 k = z.1 k ∧ z'.2.1 k = z.2.1 k) ∧ (∀ j, j < 12 ∨ 17 < j → z'.1 87 j = z.1 87 j) ∧ ∀ j, j ≠ 17 → z'.2.1 87 j = z.2.1 87 j
theorem FrC.rfl' {z : St} : FrC z z := ⟨rfl, fun _ _ _ _ => ⟨rfl, rfl⟩, fun _ _ => rfl, fun _ _ => rfl⟩
theorem FrC.trans {z z' z'' : St} (h : FrC z z') (g : FrC z' z'') : FrC z z'' := ⟨g.1.trans h.1, fun k a b c => ⟨(g.2.1 k a b c).1.trans (h.2.1 k a b c).1, (g.2.1 k a b c).2.trans (h.2.1 k a b c).2⟩, fun j a => (g.2.2.1 j a).trans (h.2.2.1 j a), fun j a => (g.2.2.2 j a).trans (h.2.2.2 j a)⟩
theorem FrC.hp {z z' : St} (h : Fr 88 92 z z') : FrC z z' := ⟨h.1, fun k _ b _ => h.2 k b, fun j _ => by rw [(h.2 87 (by omega)).1], fun j _ => by rw [(h.2 87 (by omega)).2]⟩
def CM (sh : Nat → Nat × Nat) (n : Nat) (z : St) (pk : Nat → Nat) (kt : Nat) (H : Hp) (m : Nat) (sl : Int32) (fr : Nat → Fm) (cs cl : Nat → Nat → Nat) (nf g lim : Nat) : Prop := Lay sh n z ∧ HC z H m sl ∧ CFs z pk fr cs cl nf ∧ (z.1 87 15 = 1 ∧ z.1 87 16 = 0 ∧ z.2.1 87 17 = 0) ∧ (z.2.2 87 13 = some kt ∧ okO sh n kt 8 = true ∧ 113 ≤ kt ∧ z.1 kt 3 = nI lim) ∧ z.1 87 14 = nI g ∧ g ≤ lim ∧ lim ≤ 20000
/-- no more gas than the transaction's limit -/
def GLe (z : St) (g : Nat) (s : Int32) : Prop := ∃ kt lim, z.2.2 87 13 = some kt ∧ z.1 kt 3 = nI lim ∧ g ≤ lim ∧ lim ≤ 20000 ∧ z.1 88 6 = s
theorem GLe.le {z : St} {g : Nat} {s : Int32} (h : GLe z g s) : g ≤ 20000 := by
  obtain ⟨_, _, _, _, h1, h2, _⟩ := h
  omega
/-- it has ended -/
def CE (sh : Nat → Nat × Nat) (n : Nat) (z : St) (o : Nat) (c : Int64) (g : Nat) (s : Int32) : Prop := Lay sh n z ∧ z.1 87 15 = 0 ∧ z.1 87 16 = nI o ∧ z.2.1 87 17 = c ∧ z.1 87 14 = nI g ∧ GLe z g s
section
variable {F n : Nat} {sh : Nat → Nat × Nat} {z z' : St} {pk : Nat → Nat} {kt : Nat} {H : Hp} {m : Nat} {sl0 : Int32} {fr : Nat → Fm} {cs cl : Nat → Nat → Nat} {nf g lim : Nat}
theorem HC.mv {s : Int32} (h : HC z H m s) (e : ∀ k, 88 ≤ k → k ≤ 92 → z'.1 k = z.1 k ∧ z'.2.1 k = z.2.1 k) : HC z' H m s := by
  obtain ⟨h1, h2, h3, h4, h5⟩ := h
  refine ⟨by rw [(e 88 (by omega) (by omega)).1]; exact h1, h2, h3, by rw [(e 88 (by omega) (by omega)).1]; exact h4, fun i hi => ?_⟩
  obtain ⟨a1, a2, a3, a4, a5⟩ := h5 i hi
  refine ⟨a1, a2, a3, ?_, a5⟩
  obtain ⟨n1, n2, n3⟩ := a4
  refine ⟨by rw [(e 89 (by omega) (by omega)).1]; exact n1, fun q => ?_, fun q => ?_⟩
  · obtain ⟨w1, w2, w3, w4⟩ := n2 q
    refine ⟨by rw [(e 91 (by omega) (by omega)).2]; exact w1, by rw [(e 90 (by omega) (by omega)).2]; exact w2, ?_, w4⟩
    exact chn_of w3 (fun c _ => by rw [(e 92 (by omega) (by omega)).1])
  · rw [(e 91 (by omega) (by omega)).2, (e 90 (by omega) (by omega)).2]; exact n3 q
/-- a move that leaves the machine's own fields alone -/
theorem CM.mov (h : CM sh n z pk kt H m sl0 fr cs cl nf g lim) {H' : Hp} {m' : Nat} {fr' : Nat → Fm} {cs' cl' : Nat → Nat → Nat} {nf' : Nat} {s' : Int32} (eL : z'.2.2 = z.2.2) (e1 : ∀ j, 13 ≤ j → j ≤ 16 → z'.1 87 j = z.1 87 j) (e2 : z'.2.1 87 17 = z.2.1 87 17) (e3 : z'.1 kt = z.1 kt) (hH : HC z' H' m' s') (hf : CFs z' pk fr' cs' cl' nf') : CM sh n z' pk kt H' m' s' fr' cs' cl' nf' g lim := by
  obtain ⟨hL, _, _, ⟨r1, r2, r3⟩, ⟨t1, t2, t3, t4⟩, g1, g2, g3⟩ := h
  exact ⟨hL.of eL, hH, hf, ⟨by rw [e1 15 (by omega) (by omega)]; exact r1, by rw [e1 16 (by omega) (by omega)]; exact r2, by rw [e2]; exact r3⟩, ⟨by rw [eL]; exact t1, t2, t3, by rw [e3]; exact t4⟩, by rw [e1 14 (by omega) (by omega)]; exact g1, g2, g3⟩
theorem CM.push (h : CM sh n z pk kt H m sl0 fr cs cl nf g lim) (h64 : (fr (nf - 1)).2.2.1.1 < 64) (s : Sl) (v : Nat) : ∃ z', fn_X4_push F sh n z 87 (nI v) = some (z', ()) ∧ CM sh n z' pk kt H m sl0 (setF fr (nf - 1) (pshV (fr (nf - 1)) s)) (up2 cs (nf - 1) (fr (nf - 1)).2.2.1.1 v) cl nf g lim ∧ FrC z z' := by
  have hk := h.2.2.2.2.1.2.2.1
  refine ⟨_, cpush_t h.1 h.2.2.1 h64 (nI v), h.mov rfl (fun j _ _ => by simp [cpS, si_1]) rfl (by funext j; simp [cpS, si_1, show kt ≠ 101 by omega, show kt ≠ 103 by omega]) (h.2.1.mv (fun k a b => ⟨by funext j; simp [cpS, si_1, show k ≠ 101 by omega, show k ≠ 103 by omega], rfl⟩)) (h.2.2.1.push h64 s v), ⟨rfl, fun k _ _ c => ⟨by funext j; simp [cpS, si_1, show k ≠ 101 by omega, show k ≠ 103 by omega], rfl⟩, fun j _ => by simp [cpS, si_1], fun _ _ => rfl⟩⟩
theorem CM.pop (h : CM sh n z pk kt H m sl0 fr cs cl nf g lim) (h1 : 1 ≤ (fr (nf - 1)).2.2.1.1) : ∃ z', fn_X4_pop F sh n z 87 = some (z', nI (cs (nf - 1) ((fr (nf - 1)).2.2.1.1 - 1))) ∧ CM sh n z' pk kt H m sl0 (setF fr (nf - 1) (setH (fr (nf - 1)) ((fr (nf - 1)).2.2.1.1 - 1))) cs cl nf g lim ∧ FrC z z' := by
  have hk := h.2.2.2.2.1.2.2.1
  refine ⟨_, cpop_t h.1 h.2.2.1 h1, h.mov rfl (fun j _ _ => by simp [si_1]) rfl (by funext j; simp [si_1, show kt ≠ 101 by omega]) (h.2.1.mv (fun k a b => ⟨by funext j; simp [si_1, show k ≠ 101 by omega], rfl⟩)) (h.2.2.1.pop (by omega)), ⟨rfl, fun k _ _ c => ⟨by funext j; simp [si_1, show k ≠ 101 by omega], rfl⟩, fun j _ => by simp [si_1], fun _ _ => rfl⟩⟩
/-- a value of a kind is taken -/
theorem CM.popOf (h : CM sh n z pk kt H m sl0 fr cs cl nf g lim) (h1 : 1 ≤ (fr (nf - 1)).2.2.1.1) {k : Nat} {x : Int32} (hx : x = nI k) (hk : (H (cs (nf - 1) ((fr (nf - 1)).2.2.1.1 - 1))).1 = k) (h0 : k ≠ 0) : ∃ z', fn_X4_popOf F sh n z 87 x = some (z', nI (cs (nf - 1) ((fr (nf - 1)).2.2.1.1 - 1))) ∧ CM sh n z' pk kt H m sl0 (setF fr (nf - 1) (setH (fr (nf - 1)) ((fr (nf - 1)).2.2.1.1 - 1))) cs cl nf g lim ∧ FrC z z' := by
  obtain ⟨z1, p1, p2, p3⟩ := h.pop (F := F) h1
  have al : (H (cs (nf - 1) ((fr (nf - 1)).2.2.1.1 - 1))).1 ≠ 0 := by rw [hk]; exact h0
  obtain ⟨b1, b2⟩ := p2.2.1.i1 al
  have kd := p2.2.1.kd al
  have hp := b_heap p2.1
  refine ⟨z1, ?_, p2, p3⟩
  unfold fn_X4_popOf
  rw [(b_mach h.1).1, grd_true, p1, cal_s, p2.1.2.2 87 1 88 rfl, lnk_s, hp.1, grd_true, hp.2.1, lnk_s, hp.2.2.2.2.2.1, b1, grd_true, b2, kd, hk, hx, if_pos rfl]
/-- a new node is pushed -/
theorem CM.make (h : CM sh n z pk kt H m sl0 fr cs cl nf g lim) (h64 : (fr (nf - 1)).2.2.1.1 < 64) (hm : m < 21600) {k : Nat} {x y : Int64} (hk : k < 11) (hi : ¬ inn k) (s : Sl) : ∃ z', fn_X4_pushNumber F sh n z 87 (nI k) x y = some (z', ()) ∧ CM sh n z' pk kt (upH H m (k, x, y, [])) (m + 1) sl0 (setF fr (nf - 1) (pshV (fr (nf - 1)) s)) (up2 cs (nf - 1) (fr (nf - 1)).2.2.1.1 m) cl nf g lim ∧ FrC z z' := by
  have kk := h.2.2.2.2.1.2.2.1
  have mk := make_t (F := F) (k := k) (x := x) (y := y) h.1 h.2.1.1 h.2.1.2.1 hm hk
  have f1 : Fr 88 92 z (mkS z m (nI k) x y) := mk_fr
  have H1 : HC (mkS z m (nI k) x y) (upH H m (k, x, y, [])) (m + 1) sl0 := mk_H h.2.1 hm hk rfl (fun q => absurd q hi) (fun _ => ⟨rfl, rfl, rfl⟩)
  have C1 : CM sh n (mkS z m (nI k) x y) pk kt (upH H m (k, x, y, [])) (m + 1) sl0 fr cs cl nf g lim := h.mov f1.1 (fun j _ _ => by rw [(f1.2 87 (by omega)).1]) (by rw [(f1.2 87 (by omega)).2]) (f1.2 kt (by omega)).1 H1 (h.2.2.1.of (by rw [(f1.2 87 (by omega)).1]) (fun k a b => (f1.2 k (by omega)).1) (by rw [f1.1]))
  obtain ⟨z', p1, p2, p3⟩ := C1.push (F := F) h64 s m
  refine ⟨z', ?_, p2, (FrC.hp f1).trans p3⟩
  unfold fn_X4_pushNumber
  rw [(b_mach h.1).1, grd_true, h.1.2.2 87 1 88 rfl, lnk_s, (b_heap h.1).1, grd_true, mk, cal_s, p1, cal_s]
/-- it ends -/
theorem CM.fin (h : CM sh n z pk kt H m sl0 fr cs cl nf g lim) (o : Nat) (c : Int64) : ∃ z', fn_X4_end F sh n z 87 (nI o) c = some (z', ()) ∧ CE sh n z' o c g sl0 ∧ FrC z z' := by
  obtain ⟨hL, hHs, _, _, ⟨t1, _, t3, t4⟩, g1, g2, g3⟩ := h
  refine ⟨sl (si (si z 87 15 0) 87 16 (nI o)) 87 17 c, ?_, ⟨hL.of rfl, by simp [si_1, sl_1], by simp [si_1, sl_1], by simp [sl_2], by simp [si_1, sl_1]; exact g1, kt, lim, t1, by simp [si_1, sl_1, show kt ≠ 87 by omega]; exact t4, g2, g3, by simp [si_1, sl_1]; exact hHs.2.2.2.1⟩, ⟨rfl, fun k k1 _ _ => ⟨by funext j; simp [si_1, sl_1, k1], by funext j; simp [si_2, sl_2, k1]⟩, fun j hj => by simp [si_1, sl_1, show j ≠ 15 by omega, show j ≠ 16 by omega], fun j hj => by simp [sl_2, si_2, hj]⟩⟩
  unfold fn_X4_end
  rw [(b_mach hL).1, grd_true, lt_t, lt_t, lt_t]
/-- gas is paid -/
theorem CM.pay (h : CM sh n z pk kt H m sl0 fr cs cl nf g lim) {c : Nat} (hc : g + c ≤ lim) : ∃ z', fn_X4_pay F sh n z 87 (nI c) = some (z', 1) ∧ CM sh n z' pk kt H m sl0 fr cs cl nf (g + c) lim ∧ FrC z z' := by
  obtain ⟨hL, hH, hf, ⟨r1, r2, r3⟩, ⟨t1, t2, t3, t4⟩, g1, g2, g3⟩ := h
  refine ⟨si z 87 14 (nI (g + c)), ?_, ⟨hL.of rfl, hH.mv (fun k a b => ⟨by funext j; simp [si_1, show k ≠ 87 by omega], rfl⟩), hf.of (by simp [si_1]) (fun k a b => by funext j; simp [si_1, show k ≠ 87 by omega]) rfl, ⟨by simp [si_1]; exact r1, by simp [si_1]; exact r2, r3⟩, ⟨t1, t2, t3, by simp [si_1, show kt ≠ 87 by omega]; exact t4⟩, by simp [si_1], hc, g3⟩, ⟨rfl, fun k k1 _ _ => ⟨by funext j; simp [si_1, k1], rfl⟩, fun j hj => by simp [si_1, show j ≠ 14 by omega], fun _ _ => rfl⟩⟩
  have es : nI lim - nI g = nI (lim - g) := pk_sub g2
  unfold fn_X4_pay
  rw [(b_mach hL).1, grd_true, t1, lnk_s, t2, grd_true, t4, g1, es, if_pos ((nI_leI (by omega) (by omega)).mpr (by omega)), nI_add, lt_t]
theorem CM.payE (h : CM sh n z pk kt H m sl0 fr cs cl nf g lim) {c : Nat} (hc : lim < g + c) (hc2 : c < 2 ^ 30) : ∃ z', fn_X4_pay F sh n z 87 (nI c) = some (z', 0) ∧ CE sh n z' 2 5 lim sl0 ∧ FrC z z' := by
  have h' := h
  obtain ⟨hL, hH, hf, ⟨r1, r2, r3⟩, ⟨t1, t2, t3, t4⟩, g1, g2, g3⟩ := h
  have C1 : CM sh n (si z 87 14 (nI lim)) pk kt H m sl0 fr cs cl nf lim lim := ⟨hL.of rfl, hH.mv (fun k a b => ⟨by funext j; simp [si_1, show k ≠ 87 by omega], rfl⟩), hf.of (by simp [si_1]) (fun k a b => by funext j; simp [si_1, show k ≠ 87 by omega]) rfl, ⟨by simp [si_1]; exact r1, by simp [si_1]; exact r2, r3⟩, ⟨t1, t2, t3, by simp [si_1, show kt ≠ 87 by omega]; exact t4⟩, by simp [si_1], Nat.le_refl _, g3⟩
  have f1 : FrC z (si z 87 14 (nI lim)) := ⟨rfl, fun k k1 _ _ => ⟨by funext j; simp [si_1, k1], rfl⟩, fun j hj => by simp [si_1, show j ≠ 14 by omega], fun _ _ => rfl⟩
  obtain ⟨z', p1, p2, p3⟩ := C1.fin (F := F) 2 5
  refine ⟨z', ?_, p2, f1.trans p3⟩
  have es : nI lim - nI g = nI (lim - g) := pk_sub g2
  unfold fn_X4_pay
  rw [(b_mach hL).1, grd_true, t1, lnk_s, t2, grd_true, t4, g1, es, if_neg (fun q => by have := (nI_leI (by omega) (by omega)).mp q; omega), lnk_s, t2, grd_true, t4, lt_t, show (2 : Int32) = nI 2 from rfl, p1, cal_s]
end
