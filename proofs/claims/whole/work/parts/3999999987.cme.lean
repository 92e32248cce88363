/-! THE CLASS'S MACHINE: copies -/
section
variable {F n : Nat} {sh : Nat → Nat × Nat} {z z' : St} {pk : Nat → Nat} {kt : Nat} {H : Hp} {m : Nat} {sl0 : Int32} {fr : Nat → Fm} {cs cl : Nat → Nat → Nat} {nf g lim : Nat}
theorem CM.heap (h : CM sh n z pk kt H m sl0 fr cs cl nf g lim) {H' : Hp} {m' : Nat} (f : Fr 88 92 z z') (hH : HC z' H' m' sl0) : CM sh n z' pk kt H' m' sl0 fr cs cl nf g lim ∧ FrC z z' := by
  have kk := h.2.2.2.2.1.2.2.1
  exact ⟨h.mov f.1 (fun j _ _ => by rw [(f.2 87 (by omega)).1]) (by rw [(f.2 87 (by omega)).2]) (f.2 kt (by omega)).1 hH (h.2.2.1.of (by rw [(f.2 87 (by omega)).1]) (fun k a b => (f.2 k (by omega)).1) (by rw [f.1])), FrC.hp f⟩
theorem CM.copy (hF : 300 ≤ F) (h : CM sh n z pk kt H m sl0 fr cs cl nf g lim) {d v : Nat} (t : Tr H d v) (hd : d ≤ 40) (hr : m + szA H d v ≤ 21600) (h64 : (fr (nf - 1)).2.2.1.1 < 64) (s : Sl) : (lim < g + szA H d v → ∃ z', fn_X4_pushCopy F sh n z 87 (nI v) = some (z', ()) ∧ CE sh n z' 2 5 lim sl0 ∧ FrC z z') ∧ (g + szA H d v ≤ lim → ∃ z1 z2 z' H' u' o, fn_X4_pushCopy F sh n z 87 (nI v) = some (z', ()) ∧ CpR z1 H m sl0 d v z2 H' u' o ∧ CM sh n z' pk kt H' u' sl0 (setF fr (nf - 1) (pshV (fr (nf - 1)) s)) (up2 cs (nf - 1) (fr (nf - 1)).2.2.1.1 m) cl nf (g + szA H d v) lim ∧ FrC z z') := by
  have sz := sizeOf_t (F := F) hF h.1 h.2.1 t hd
  have sq := szB_q (H := H) d v
  have sb := szB_b (H := H) d v
  have l20 := h.2.2.2.2.2.2.2
  unfold Szq at sq
  have l1 := h.1.2.2 87 1 88 rfl
  have hp := (b_heap h.1).1
  constructor
  · intro hg
    obtain ⟨z1, p1, p2, p3⟩ := h.payE (F := F) (c := szB H d v) (by omega) (by omega)
    refine ⟨z1, ?_, p2, p3⟩
    unfold fn_X4_pushCopy
    rw [(b_mach h.1).1, grd_true, l1, lnk_s, hp, grd_true, sz, cal_s, p1, cal_s, if_pos rfl]
  · intro hg
    have eb : szB H d v = szA H d v := by omega
    rw [eb] at sz
    obtain ⟨z1, p1, p2, p3⟩ := h.pay (F := F) hg
    obtain ⟨z2, H', u', o, c1, c2⟩ := copyOf_t (F := F) hF p2.1 p2.2.1 t hd hr
    have f2 : Fr 88 92 z1 z2 := c2.2.2.2.2.2.2.2.1
    obtain ⟨q1, q2⟩ := p2.heap f2 c2.1
    obtain ⟨z3, r1, r2, r3⟩ := q1.push (F := F) h64 s m
    refine ⟨z1, z2, z3, H', u', o, ?_, c2, r2, (p3.trans q2).trans r3⟩
    unfold fn_X4_pushCopy
    rw [(b_mach h.1).1, grd_true, l1, lnk_s, hp, grd_true, sz, cal_s, p1, cal_s, if_neg one0, p2.1.2.2 87 1 88 rfl, lnk_s, hp, grd_true, c1, cal_s, r1, cal_s]
end
