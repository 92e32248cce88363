/-! THE CLASS'S LEDGER: what settling changes -/
def FrLc (z z' : St) : Prop := z'.2.2 = z.2.2 ∧ (∀ k, ¬ (3 ≤ k ∧ k ≤ 14) → z'.1 k = z.1 k ∧ z'.2.1 k = z.2.1 k) ∧ (∀ j, j ≠ 3 → j ≠ 10 → z'.1 3 j = z.1 3 j) ∧ z'.2.1 3 = z.2.1 3 ∧ z'.1 7 = z.1 7
theorem FrLc.rfl' {z : St} : FrLc z z := ⟨rfl, fun _ _ => ⟨rfl, rfl⟩, fun _ _ _ => rfl, rfl, rfl⟩
theorem FrLc.trans {z z' z'' : St} (f : FrLc z z') (g : FrLc z' z'') : FrLc z z'' := ⟨g.1.trans f.1, fun k h => ⟨(g.2.1 k h).1.trans (f.2.1 k h).1, (g.2.1 k h).2.trans (f.2.1 k h).2⟩, fun j a b => (g.2.2.1 j a b).trans (f.2.2.1 j a b), g.2.2.2.1.trans f.2.2.2.1, g.2.2.2.2.trans f.2.2.2.2⟩
theorem FrLc.si {z : St} {k j : Nat} {v : Int32} (h : 8 ≤ k ∧ k ≤ 14) : FrLc z (si z k j v) := ⟨rfl, fun i q => ⟨by funext l; rw [si_ok (by omega)], rfl⟩, fun l _ _ => by rw [si_ok (by omega)], rfl, by funext l; rw [si_ok (by omega)]⟩
theorem FrLc.sl {z : St} {k j : Nat} {v : Int64} (h : 4 ≤ k ∧ k ≤ 14) : FrLc z (sl z k j v) := ⟨rfl, fun i q => ⟨rfl, by funext l; rw [sl_ok (by omega)]⟩, fun l _ _ => rfl, by funext l; rw [sl_ok (by omega)], rfl⟩
theorem FrLc.s3 {z : St} {j : Nat} {v : Int32} (h : j = 3 ∨ j = 10) : FrLc z (Jvm.Pilot.CResourceLedgerLaw_law_r8937_d13e27.si z 3 j v) := ⟨rfl, fun i q => ⟨by funext l; rw [si_ok (by omega)], rfl⟩, fun l a b => by rw [si_oj (by omega)], rfl, by funext l; rw [si_ok (by omega)]⟩
theorem FrT.k {a b : Nat} {z z' : St} (f : FrT a b z z') : FrLc z z' := ⟨f.1, fun k h => ⟨funext fun j => (f.2 k j (by omega)).1, funext fun j => (f.2 k j (by omega)).2⟩, fun j _ _ => (f.2 3 j (by omega)).1, funext fun j => (f.2 3 j (by omega)).2, funext fun j => (f.2 7 j (by omega)).1⟩
section
variable {F n : Nat} {sh : Nat → Nat × Nat} {z z' : St} {nc nr : Nat} {ac : Nat → Int64 × Int64 × Int64} {so : Nat → Option Rsc}
theorem FrLc.hc (f : FrLc z z') {H : Hp} {u : Nat} {s : Int32} (h : HC z H u s) : HC z' H u s := h.fr (fun k k1 k2 => (f.2.1 k (by omega)).1) (fun k k1 k2 => (f.2.1 k (by omega)).2)
theorem FrLc.cj (f : FrLc z z') {na : Nat} {ak : Nat → Ask} {cn : Nat → Nat} {ws : Nat → Int64 → Nat → Bool} (h : CJ z na ak cn ws) : CJ z' na ak cn ws := h.of (fun k a b => f.2.1 k (by omega))
theorem CSl.off {i : Nat} {x : Rsc} (h : CSl z i x) (e1 : z'.2.1 8 i = z.2.1 8 i) (e2 : z'.1 9 i = z.1 9 i) (e3 : z'.1 10 i = z.1 10 i) (e4 : z'.1 11 i = z.1 11 i) (e5 : ∀ j, i * 64 ≤ j → j < i * 64 + 64 → z'.1 12 j = z.1 12 j ∧ z'.2.1 13 j = z.2.1 13 j ∧ z'.2.1 14 j = z.2.1 14 j) : CSl z' i x := by
  obtain ⟨h1, h2, h3, h4, h5, h6, h7, h8⟩ := h
  refine ⟨by rw [e1]; exact h1, by rw [e2]; exact h2, by rw [e3]; exact h3, h4, by rw [e4]; exact h5, h6, h7, fun j hj => ?_⟩
  obtain ⟨q1, q2, q3⟩ := e5 (i * 64 + j) (by omega) (by omega)
  rw [q1, q2, q3]
  exact h8 j hj
/-- one slot changes -/
theorem CLg.slot (h : CLg z nc ac nr so) {r nr' : Nat} {o : Option Rsc} (a1 : z'.1 3 3 = z.1 3 3) (a2 : ∀ k, 4 ≤ k → k ≤ 6 → z'.2.1 k = z.2.1 k) (a3 : z'.1 3 10 = nI nr') (a4 : nr' ≤ 256) (e : ∀ i, i ≠ r → z'.2.1 8 i = z.2.1 8 i ∧ z'.1 9 i = z.1 9 i ∧ z'.1 10 i = z.1 10 i ∧ z'.1 11 i = z.1 11 i) (e5 : ∀ i j, i ≠ r → i * 64 ≤ j → j < i * 64 + 64 → z'.1 12 j = z.1 12 j ∧ z'.2.1 13 j = z.2.1 13 j ∧ z'.2.1 14 j = z.2.1 14 j) (hn : o = none → z'.1 11 r = 0) (hs : ∀ x, o = some x → CSl z' r x) : CLg z' nc ac nr' (fun i => if i = r then o else so i) := by
  obtain ⟨⟨b1, b2, b3⟩, b4, b5, b6⟩ := h
  refine ⟨⟨a1.trans b1, b2, fun i hi => ?_⟩, a3, a4, fun i hi => ?_⟩
  · rw [a2 4 (by omega) (by omega), a2 5 (by omega) (by omega), a2 6 (by omega) (by omega)]; exact b3 i hi
  · by_cases q : i = r
    · subst q
      simp only [if_true]
      exact ⟨hn, hs⟩
    · simp only [if_neg q]
      obtain ⟨c1, c2, c3, c4⟩ := e i q
      obtain ⟨d1, d2⟩ := b6 i hi
      exact ⟨fun w => by rw [c4]; exact d1 w, fun x hx => (d2 x hx).off c1 c2 c3 c4 (fun j j1 j2 => e5 i j q j1 j2)⟩
theorem cremove_n (hF : 300 ≤ F) (hL : Lay sh n z) (h : CLg z nc ac nr so) {a : Int64} {k : Nat} (hk : k < 2 ^ 24) (hf : fdS so a k = none) : fn_X7_removeResource F sh n z 3 a (nI (k / 256)) (nI (k % 256)) = some (z, ()) := by
  unfold fn_X7_removeResource
  rw [(b_state hL).1, grd_true, cfindR_t hF hL h hk, cal_s, hf, if_pos (by decide)]
theorem cremove_t (hF : 300 ≤ F) (hL : Lay sh n z) (h : CLg z nc ac nr so) {a : Int64} {k r : Nat} (hk : k < 2 ^ 24) (hf : fdS so a k = some r) (h1 : 1 ≤ nr) : ∃ z', fn_X7_removeResource F sh n z 3 a (nI (k / 256)) (nI (k % 256)) = some (z', ()) ∧ CLg z' nc ac (nr - 1) (fun i => if i = r then none else so i) ∧ FrLc z z' := by
  have hr := fd_lt 256 0 r hf
  have S := b_state hL
  have L2 : Lay sh n (si z 11 r 0) := hL.of rfl
  obtain ⟨m, rfl⟩ : ∃ m, nr = m + 1 := ⟨nr - 1, by omega⟩
  have e10 : (si z 11 r 0).1 3 10 - 1 = nI m := by rw [si_ok (by omega), h.2.1, ← nI_1, Int32.add_sub_cancel]
  refine ⟨si (si z 11 r 0) 3 10 (nI m), ?_, ?_, (FrLc.si (by omega)).trans (FrLc.s3 (.inr rfl))⟩
  · unfold fn_X7_removeResource
    rw [S.1, grd_true, cfindR_t hF hL h hk, cal_s, hf, if_neg (oI0 r (by omega)).2, S.2.2.2.2.2.2.2.2.1, lnk_s, S.2.2.2.2.2.2.2.2.2.2.2.2.2.2.2.2.2.2.2.1, show oI (some r) = nI r from rfl, okI_nI (by omega) (by omega), grd_true, nI_clamp (by omega), lt_t, e10, lt_t]
  · have h256 := h.2.2.1
    refine h.slot (nr' := m + 1 - 1) (by rw [si_oj (by omega), si_ok (by omega)]) (fun k _ _ => rfl) si_ss (by omega) (fun i hi => ⟨rfl, by rw [si_ok (by omega), si_ok (by omega)], by rw [si_ok (by omega), si_ok (by omega)], by rw [si_ok (by omega), si_oj hi]⟩) (fun i j hi _ _ => ⟨by rw [si_ok (by omega), si_ok (by omega)], rfl, rfl⟩) (fun _ => by rw [si_ok (by omega), si_ss]) (fun x hx => absurd hx (by simp))
/-- an account is opened -/
theorem copen_t (hL : Lay sh n z) (h : CLg z nc ac nr so) (hn : nc < 256) {a : Int64} : ∃ z', fn_X7_openAccount F sh n z 3 a = some (z', nI nc) ∧ CLg z' (nc + 1) (fun j => if j = nc then (a, 0, 0) else ac j) nr so ∧ FrLc z z' := by
  have S := b_state hL
  have v2 : (if (255 : Int32) < nI nc then 255 else nI nc) = nI nc := if_neg (fun q => by have := (nIgt (x := 255) 255 rfl (by omega) (by omega)).mp q; omega)
  have ok : okI (nI nc) 256 = true := okI_nI hn (by omega)
  have cp : (nI nc).toNatClampNeg = nc := nI_clamp (by omega)
  refine ⟨si (sl (sl (sl z 4 nc a) 5 nc 0) 6 nc 0) 3 3 (nI (nc + 1)), ?_, ?_, (((FrLc.sl (by omega)).trans (FrLc.sl (by omega))).trans (FrLc.sl (by omega))).trans (FrLc.s3 (.inl rfl))⟩
  · unfold fn_X7_openAccount
    rw [S.1, grd_true, h.1.1, v2, lt_t, S.2.1, lnk_s, S.2.2.2.2.2.2.2.2.2.2.2.2.1, ok, grd_true, cp, lt_t, sl_3, S.2.2.1, lnk_s, S.2.2.2.2.2.2.2.2.2.2.2.2.2.1, ok, grd_true, lt_t, sl_3, sl_3, S.2.2.2.1, lnk_s, S.2.2.2.2.2.2.2.2.2.2.2.2.2.2.1, ok, grd_true, lt_t, nI_1, lt_t]
  · obtain ⟨⟨a1, a2, a3⟩, b1, b2, b3⟩ := h
    refine ⟨⟨si_ss, by omega, fun i hi => ?_⟩, by rw [si_oj (by omega)]; exact b1, b2, fun r hr => ⟨fun q => by rw [si_ok (by omega)]; exact (b3 r hr).1 q, fun x hx => ((b3 r hr).2 x hx).of (fun k k1 k2 => ⟨by funext j; rw [si_ok (by omega)]; rfl, by funext j; rw [si_2, sl_ok (by omega), sl_ok (by omega), sl_ok (by omega)]⟩)⟩⟩
    by_cases q : i = nc
    · subst q
      simp only [if_true]
      exact ⟨by rw [si_2, sl_ok (by omega), sl_ok (by omega), sl_ss], by rw [si_2, sl_ok (by omega), sl_ss], by rw [si_2, sl_ss]⟩
    · simp only [if_neg q]
      rw [si_2, sl_ok (by omega), sl_ok (by omega), sl_oj q, sl_ok (by omega), sl_oj q, sl_ok (by omega), sl_oj q, sl_ok (by omega), sl_ok (by omega)]
      exact a3 i (by omega)
theorem cbal_t (h : CLg z nc ac nr so) {i : Nat} (b : Int64) : CLg (sl z 5 i b) nc (fun j => if j = i then ((ac j).1, b, (ac j).2.2) else ac j) nr so ∧ FrLc z (sl z 5 i b) := by
  obtain ⟨⟨a1, a2, a3⟩, b1, b2, b3⟩ := h
  refine ⟨⟨⟨a1, a2, fun j hj => ?_⟩, b1, b2, fun r hr => ⟨fun q => (b3 r hr).1 q, fun x hx => ((b3 r hr).2 x hx).of (fun k k1 k2 => ⟨rfl, by funext j; rw [sl_ok (by omega)]⟩)⟩⟩, FrLc.sl (by omega)⟩
  obtain ⟨q1, q2, q3⟩ := a3 j hj
  by_cases q : j = i
  · subst q
    simp only [if_true]
    exact ⟨by rw [sl_ok (by omega)]; exact q1, sl_ss, by rw [sl_ok (by omega)]; exact q3⟩
  · simp only [if_neg q]
    exact ⟨by rw [sl_ok (by omega)]; exact q1, by rw [sl_oj q]; exact q2, by rw [sl_ok (by omega)]; exact q3⟩
/-- a slot for a resource: the one that has it, or a free one -/
theorem cslot_s (hF : 300 ≤ F) (hL : Lay sh n z) (h : CLg z nc ac nr so) {a : Int64} {k r : Nat} (hk : k < 2 ^ 24) (hf : fdS so a k = some r) : fn_X7_slotFor F sh n z 3 a (nI (k / 256)) (nI (k % 256)) = some (z, nI r) := by
  have hr := fd_lt 256 0 r hf
  unfold fn_X7_slotFor
  rw [(b_state hL).1, grd_true, cfindR_t hF hL h hk, cal_s, hf, if_neg (oI0 r (by omega)).2]
  rfl
theorem cslot_n (hF : 300 ≤ F) (hL : Lay sh n z) (h : CLg z nc ac nr so) {a : Int64} {k r : Nat} (hk : k < 2 ^ 24) (hf : fdS so a k = none) (hn : fdN so = some r) (h256 : nr < 256) : ∃ z', fn_X7_slotFor F sh n z 3 a (nI (k / 256)) (nI (k % 256)) = some (z', nI r) ∧ CLg z' nc ac (nr + 1) so ∧ (z'.2.1 8 r = a ∧ z'.1 9 r = nI (k / 256) ∧ z'.1 10 r = nI (k % 256)) ∧ FrLc z z' := by
  have hr := fd_lt 256 0 r hn
  have sn : so r = none := by simpa using hr.2.2
  have S := b_state hL
  have ok : okI (nI r) 256 = true := okI_nI (by omega) (by omega)
  have cp : (nI r).toNatClampNeg = r := nI_clamp (by omega)
  have e10 : (si (si (sl z 8 r a) 9 r (nI (k / 256))) 10 r (nI (k % 256))).1 3 10 + 1 = nI (nr + 1) := by rw [si_ok (by omega), si_ok (by omega), sl_1, h.2.1, nI_1]
  refine ⟨si (si (si (sl z 8 r a) 9 r (nI (k / 256))) 10 r (nI (k % 256))) 3 10 (nI (nr + 1)), ?_, ?_, ⟨by rw [si_2, si_2, si_2, sl_ss], by rw [si_ok (by omega), si_ok (by omega), si_ss], by rw [si_ok (by omega), si_ss]⟩, (((FrLc.sl (by omega)).trans (FrLc.si (by omega))).trans (FrLc.si (by omega))).trans (FrLc.s3 (.inr rfl))⟩
  · unfold fn_X7_slotFor
    rw [S.1, grd_true, cfindR_t hF hL h hk, cal_s, hf, if_pos (by decide), cfree_t hF hL h, cal_s, hn, if_neg (oI0 r (by omega)).2, S.2.2.2.2.2.1, lnk_s, show oI (some r) = nI r from rfl, S.2.2.2.2.2.2.2.2.2.2.2.2.2.2.2.2.1, ok, grd_true, cp, lt_t, sl_3, S.2.2.2.2.2.2.1, lnk_s, S.2.2.2.2.2.2.2.2.2.2.2.2.2.2.2.2.2.1, ok, grd_true, lt_t, si_3, sl_3, S.2.2.2.2.2.2.2.1, lnk_s, S.2.2.2.2.2.2.2.2.2.2.2.2.2.2.2.2.2.2.1, ok, grd_true, lt_t, e10, lt_t]
  · have w := h.slot (z' := si (si (si (sl z 8 r a) 9 r (nI (k / 256))) 10 r (nI (k % 256))) 3 10 (nI (nr + 1))) (r := r) (nr' := nr + 1) (o := none) (by rw [si_oj (by omega), si_ok (by omega), si_ok (by omega), sl_1]) (fun k _ _ => by funext j; rw [si_2, si_2, si_2, sl_ok (by omega)]) si_ss (by omega) (fun i hi => ⟨by rw [si_2, si_2, si_2, sl_oj hi], by rw [si_ok (by omega), si_ok (by omega), si_oj hi, sl_1], by rw [si_ok (by omega), si_oj hi, si_ok (by omega), sl_1], by rw [si_ok (by omega), si_ok (by omega), si_ok (by omega), sl_1]⟩) (fun i j hi _ _ => ⟨by rw [si_ok (by omega), si_ok (by omega), si_ok (by omega), sl_1], by rw [si_2, si_2, si_2, sl_ok (by omega)], by rw [si_2, si_2, si_2, sl_ok (by omega)]⟩) (fun _ => by rw [si_ok (by omega), si_ok (by omega), si_ok (by omega), sl_1]; exact (h.2.2.2 r (by omega)).1 sn) (fun x hx => absurd hx (by simp))
    have ef : (fun i => if i = r then none else so i) = so := by
      funext i
      by_cases q : i = r
      · rw [if_pos q, q, sn]
      · rw [if_neg q]
    rw [ef] at w
    exact w
/-- a tree is kept in a slot -/
theorem ckeep_t (hL : Lay sh n z) (h : CLg z nc ac nr so) {z1 z2 : St} {a : Int64} {k r : Nat} {E : List Ent} (hr : r < 256) (hk : k < 2 ^ 24) (r8 : z.2.1 8 r = a) (r9 : z.1 9 r = nI (k / 256)) (r10 : z.1 10 r = nI (k % 256)) (hE : E.length ≤ 64) (hE0 : 0 < E.length) (rw1 : RowsC z1 E (r * 64)) (ft : FrT (r * 64) (r * 64 + E.length) z z1) (e2 : z2 = si z1 11 r (nI E.length)) : CLg z2 nc ac nr (fun i => if i = r then some (a, k, E) else so i) ∧ FrLc z z2 := by
  subst e2
  refine ⟨h.slot (by rw [si_ok (by omega), (ft.2 3 3 (by omega)).1]) (fun k k1 k2 => by funext j; rw [si_2, (ft.2 k j (by omega)).2]) (by rw [si_ok (by omega), (ft.2 3 10 (by omega)).1]; exact h.2.1) h.2.2.1 (fun i hi => ⟨by rw [si_2, (ft.2 8 i (by omega)).2], by rw [si_ok (by omega), (ft.2 9 i (by omega)).1], by rw [si_ok (by omega), (ft.2 10 i (by omega)).1], by rw [si_oj hi, (ft.2 11 i (by omega)).1]⟩) (fun i j hi j1 j2 => ?_) (fun q => absurd q (by simp)) (fun x hx => ?_), ft.k.trans (FrLc.si (by omega))⟩
  · have nb : ¬ (r * 64 ≤ j ∧ j < r * 64 + E.length) := fun q => hi (by omega)
    exact ⟨by rw [si_ok (by omega), (ft.2 12 j (by omega)).1], by rw [si_2, (ft.2 13 j (by omega)).2], by rw [si_2, (ft.2 14 j (by omega)).2]⟩
  · have ex : x = (a, k, E) := by simpa using hx.symm
    subst ex
    exact ⟨by rw [si_2, (ft.2 8 r (by omega)).2]; exact r8, by rw [si_ok (by omega), (ft.2 9 r (by omega)).1]; exact r9, by rw [si_ok (by omega), (ft.2 10 r (by omega)).1]; exact r10, hk, si_ss, hE0, hE, fun i hi => by rw [si_ok (by omega), si_2]; exact rw1 i hi⟩
end
