/-! BYTES OF A RESOURCE, the reference's side -/
def gl (l : List Int32) : Nat → Int32 := fun i => (l[i]?).getD 0
theorem gl_1 {l m : List Int32} {i : Nat} (h : i < l.length) : gl (l ++ m) i = gl l i := by
  unfold gl
  rw [List.getElem?_append_left h]
theorem gl_2 {l m : List Int32} {i : Nat} : gl (l ++ m) (l.length + i) = gl m i := by
  unfold gl
  rw [List.getElem?_append_right (by omega), show l.length + i - l.length = i by omega]
theorem gl_3 {l : List Int32} {i : Nat} (h : i < l.length) : gl l i = l[i] := by
  unfold gl
  rw [List.getElem?_eq_getElem h]; rfl
theorem gl_nB (x : Int64) : ∀ c i, i < c → gl (nB x c) i = lb x (c - 1 - i)
  | 0, i, h => absurd h (by omega)
  | c + 1, 0, _ => by
    show lb x c = lb x (c + 1 - 1 - 0)
    rw [show c + 1 - 1 - 0 = c by omega]
  | c + 1, i + 1, h => by
    have := gl_nB x c i (by omega)
    show gl (nB x c) i = lb x (c + 1 - 1 - (i + 1))
    rw [this, show c + 1 - 1 - (i + 1) = c - 1 - i by omega]
theorem lb_0 (x : Int64) : x.toInt32 &&& 255 = lb x 0 := by
  rw [and255, i32_bv, BitVec.toNat_setWidth]
  unfold lb
  congr 1
  omega
/-- bytes l stand in the reference's digest -/
def WBm (sh : Nat → Nat × Nat) (n : Nat) (z z' : St) (l : List Int32) : Prop := MI sh n z' 372 373 374 375 (gl l) l.length ∧ z'.2 = z.2 ∧ (∀ k, k ≠ 337 → k ≠ 372 → k ≠ 373 → z'.1 k = z.1 k) ∧ ∀ j, j ≠ 14 → z'.1 337 j = z.1 337 j
section
variable {F n : Nat} {sh : Nat → Nat × Nat} {z z1 : St} {l : List Int32}
theorem WBm.add (h : WBm sh n z z1 l) (hl : l.length < 4096) {x c : Int32} (hx : x &&& 255 = c &&& 255) : ∃ z2, fn_X12_add F sh n z1 372 x = some (z2, ()) ∧ WBm sh n z z2 (l ++ [c]) ∧ z2.1 337 = z1.1 337 := by
  obtain ⟨I, h2, h3, h4⟩ := h
  have I' : MI sh n z1 372 373 374 375 (gl (l ++ [c])) l.length := MI_lo I (fun i hi => (gl_1 hi).symm)
  obtain ⟨z2, a1, a2, a3, a4⟩ := add_t (F := F) (x := x) I' hl (by
    have : gl (l ++ [c]) (l.length + 0) = gl [c] 0 := gl_2
    rw [Nat.add_zero] at this
    rw [this]; exact hx)
  have e337 : z2.1 337 = z1.1 337 := a4.1 337 (by decide) (by decide)
  refine ⟨z2, a1, ⟨by rw [List.length_append]; exact a2, ?_, fun k k1 k2 k3 => by rw [a4.1 k k2 k3]; exact h3 k k1 k2 k3, fun j hj => by rw [e337]; exact h4 j hj⟩, e337⟩
  rw [← h2]
  exact Prod.ext a3 a4.2.2
theorem WBm.num (hF : 64 < F) (h : WBm sh n z z1 l) {c : Nat} (hc : c ≤ 8) (hl : l.length + c ≤ 4096) (x : Int64) : ∃ z2, fn_X12_addNumber F sh n z1 372 x (nI c) = some (z2, ()) ∧ WBm sh n z z2 (l ++ nB x c) ∧ z2.1 337 = z1.1 337 := by
  obtain ⟨I, h2, h3, h4⟩ := h
  have I' : MI sh n z1 372 373 374 375 (gl (l ++ nB x c)) l.length := MI_lo I (fun i hi => (gl_1 hi).symm)
  obtain ⟨z2, a1, a2, a3, a4⟩ := adn (F := F) (x := x) I' hF hl hc (fun i hi => by rw [gl_2, gl_nB x c i hi, lb_and])
  have e337 : z2.1 337 = z1.1 337 := a4.1 337 (by decide) (by decide)
  refine ⟨z2, a1, ⟨by rw [List.length_append, nB_len]; exact a2, ?_, fun k k1 k2 k3 => by rw [a4.1 k k2 k3]; exact h3 k k1 k2 k3, fun j hj => by rw [e337]; exact h4 j hj⟩, e337⟩
  rw [← h2]
  exact Prod.ext a3 a4.2.2
theorem WBm.k14 (h : WBm sh n z z1 l) (x : Int32) : WBm sh n z (si z1 337 14 x) l := by
  obtain ⟨⟨i1, i2, i3, i4⟩, h2, h3, h4⟩ := h
  refine ⟨⟨i1, by rw [si_ok (by decide)]; exact i2, i3, fun i hi => by rw [si_ok (by decide)]; exact i4 i hi⟩, h2, fun k k1 k2 k3 => by rw [si_ok k1]; exact h3 k k1 k2 k3, fun j hj => by rw [si_oj hj]; exact h4 j hj⟩
theorem WBm.lay (hL : Lay sh n z) (h : WBm sh n z z1 l) : Lay sh n z1 := hL.of (by rw [h.2.1])
variable {Q : Hp} {b sz : Nat}
theorem ad_one (hF : 100 ≤ F) (hL : Lay sh n z) (kp : Kep z Q b 0 sz) (h64 : sz ≤ 64) (hco : ∀ w, w < sz → (Q w).1 ≤ 5 → kds Q w = []) : ∀ D v u z1 l, Pre Q D v u → u ≤ sz → WBm sh n z z1 l → z1.1 337 14 = nI (b + v) → l.length + 16 * (u - v) ≤ 3000 → ∃ z2, fn_X18_addOne F sh n D z1 337 = some (z2, ()) ∧ WBm sh n z z2 (l ++ rL (fB Q) (u - v) v) ∧ z2.1 337 14 = nI (b + u) := by
  intro D
  induction D with
  | zero => intro v u z1 l h; exact absurd h (by simp [Pre])
  | succ D ih =>
    intro v u z1 l h hu w e14 hl
    have ge := Pre.ge _ _ _ h
    obtain ⟨p1, p2, p3, p4⟩ := h
    obtain ⟨r0, r1, r2, r3, r4⟩ := kp v (by omega) (by omega)
    have list : ∀ (cs : List Nat) (a b' p g : Nat) (z1 : St) (l : List Int32), PreL (Pre Q D) cs a b' → b' ≤ sz → WBm sh n z z1 l → z1.1 337 14 = nI (b + a) → l.length + 16 * (b' - a) ≤ 3000 → p + cs.length = (kds Q v).length → cs.length < g → a ≤ b' ∧ ∃ z2, fn_X18_addOne_L146 F sh n 337 (nI (b + v)) (fn_X18_addOne F sh n D) g z1 (nI p) = some (z2, ()) ∧ WBm sh n z z2 (l ++ rL (fB Q) (b' - a) a) ∧ z2.1 337 14 = nI (b + b') := by
      intro cs
      induction cs with
      | nil =>
        intro a b' p g z1 l l1 l2 w l3 l4 l5 l6
        obtain ⟨g, rfl⟩ : ∃ q, g = q + 1 := ⟨g - 1, by omega⟩
        have e : a = b' := l1
        subst e
        rw [Nat.sub_self]
        refine ⟨Nat.le_refl _, z1, ?_, by rw [show rL (fB Q) 0 a = [] from rfl, List.append_nil]; exact w, l3⟩
        have hz := w.lay hL
        rw [List.length_nil, Nat.add_zero] at l5
        unfold fn_X18_addOne_L146
        rw [hz.2.2 337 13 348 rfl, lnk_s, lay_a hz 348 101 16384 (by decide) rfl, okI_nI r0 (by omega), grd_true, nI_clamp (by omega), w.2.2.1 348 (by decide) (by decide) (by decide), r4, l5, if_pos ((nI_leW (by omega) (by omega)).mpr (by omega))]
      | cons c cs ihc =>
        intro a b' p g z1 l l1 l2 w l3 l4 l5 l6
        obtain ⟨g, rfl⟩ : ∃ q, g = q + 1 := ⟨g - 1, by omega⟩
        obtain ⟨e, x, w1, w2⟩ := l1
        subst e
        have gw := Pre.ge _ _ _ w1
        rw [List.length_cons] at l5 l6
        have wb : x ≤ b' := (PreL.ge (Q := Q) (fun a u q => Pre.ge D a u q) _ _ _ w2).1
        obtain ⟨z2, x1, x2, x3⟩ := ih c x z1 l w1 (by omega) w l3 (by omega)
        have rl : (rL (fB Q) (x - c) c).length ≤ 16 * (x - c) := by
          have : ∀ m i, (rL (fB Q) m i).length ≤ 16 * m := by
            intro m
            induction m with
            | zero => intro i; simp [rL]
            | succ m ihm =>
              intro i
              have e : rL (fB Q) (m + 1) i = fB Q i ++ rL (fB Q) m (i + 1) := rfl
              rw [e, List.length_append]
              have := ihm (i + 1)
              have : (fB Q i).length ≤ 16 := kB_len
              omega
          exact this _ _
        obtain ⟨y0, z3, y1, y2, y3⟩ := ihc x b' (p + 1) g z2 (l ++ rL (fB Q) (x - c) c) w2 l2 x2 x3 (by rw [List.length_append]; omega) (by omega) (by omega)
        refine ⟨by omega, z3, ?_, ?_, y3⟩
        · have hz := w.lay hL
          unfold fn_X18_addOne_L146
          rw [hz.2.2 337 13 348 rfl, lnk_s, lay_a hz 348 101 16384 (by decide) rfl, okI_nI r0 (by omega), grd_true, nI_clamp (show b + v < 2 ^ 31 by omega), w.2.2.1 348 (by decide) (by decide) (by decide), r4, if_neg (fun e => by have := (nI_leW (a := (kds Q v).length) (b := p) (by omega) (by omega)).mp e; omega), x1, cal_s, show nI p + 1 = nI (p + 1) from nI_add p 1]
          exact y1
        · rw [show b' - c = (x - c) + (b' - x) by omega, rL_add, show c + (x - c) = x by omega, ← List.append_assoc]
          exact y2
    have w4 := w.k14 (nI (b + (v + 1)))
    have f14 : (si z1 337 14 (nI (b + (v + 1)))).1 337 14 = nI (b + (v + 1)) := si_ss
    have hz := w4.lay hL
    have es : rL (fB Q) (u - v) v = fB Q v ++ rL (fB Q) (u - (v + 1)) (v + 1) := by
      rw [show u - v = (u - (v + 1)) + 1 by omega]; rfl
    have ok : ∀ K c, shF K = (c, 16384) → K < 513 → okA sh n K c (nI (b + v)) = true := fun K c e hK => by
      rw [lay_a hz K c 16384 hK e]; exact okI_nI r0 (by omega)
    have cl : (nI (b + v)).toNatClampNeg = b + v := nI_clamp (by omega)
    have fl : (fB Q v).length ≤ 16 := kB_len
    have lf : (Q v).1 ≤ 5 → u = v + 1 := fun c => by
      have := hco v (by omega) c
      rw [this] at p4
      have e : v + 1 = u := p4
      exact e.symm
    have i45 : (si z1 337 14 (nI (b + (v + 1)))).1 345 (b + v) = nI (Q v).1 := by rw [w4.2.2.1 345 (by decide) (by decide) (by decide)]; exact r1
    have i46 : ∀ z2 l, WBm sh n z z2 l → z2.2.1 346 (b + v) = (Q v).2.1 := fun z2 l W => by rw [W.2.1]; exact r2
    have i47 : ∀ z2 l, WBm sh n z z2 l → z2.2.1 347 (b + v) = (Q v).2.2.1 := fun z2 l W => by rw [W.2.1]; exact r3
    have i48 : (si z1 337 14 (nI (b + (v + 1)))).1 348 (b + v) = nI (kds Q v).length := by rw [w4.2.2.1 348 (by decide) (by decide) (by decide)]; exact r4
    have dg := (b_digr hz).1
    rw [es]
    rw [fn_X18_addOne, (b_model (w.lay hL)).1, grd_true, lt_t, e14, lt_t, show nI (b + v) + 1 = nI (b + (v + 1)) from nI_add (b + v) 1, hz.2.2 337 10 345 rfl, lnk_s, ok 345 100 rfl (by decide), grd_true, cl, i45]
    have kk : (Q v).1 = 1 ∨ (Q v).1 = 2 ∨ (Q v).1 = 3 ∨ (Q v).1 = 4 ∨ (Q v).1 = 5 ∨ (Q v).1 = 6 ∨ (Q v).1 = 7 := by omega
    rcases kk with c | c | c | c | c | c | c
    · have fe : fB Q v = [lb (Q v).2.2.1 0] := by unfold fB; rw [c]; rfl
      have hu2 := lf (by omega)
      subst hu2
      obtain ⟨z2, a1, a2, a3⟩ := w4.add (F := F) (x := ((Q v).2.2.1).toInt32) (c := lb (Q v).2.2.1 0) (by omega) (by rw [lb_0, lb_and])
      rw [c, if_pos (show nI 1 = 1 from rfl), hz.2.2 337 18 372 rfl, lnk_s, hz.2.2 337 12 347 rfl, lnk_s, ok 347 102 rfl (by decide), grd_true, dg, grd_true, i47 _ _ w4, a1, cal_s, Nat.sub_self, fe]
      exact ⟨z2, rfl, by rw [show rL (fB Q) 0 (v + 1) = [] from rfl, List.append_nil]; exact a2, by rw [a3]; exact f14⟩
    · have fe : fB Q v = [lb (Q v).2.2.1 0] := by unfold fB; rw [c]; rfl
      have hu2 := lf (by omega)
      subst hu2
      obtain ⟨z2, a1, a2, a3⟩ := w4.add (F := F) (x := ((Q v).2.2.1).toInt32) (c := lb (Q v).2.2.1 0) (by omega) (by rw [lb_0, lb_and])
      rw [c, if_neg (by decide), if_pos (show nI 2 = 2 from rfl), hz.2.2 337 18 372 rfl, lnk_s, hz.2.2 337 12 347 rfl, lnk_s, ok 347 102 rfl (by decide), grd_true, dg, grd_true, i47 _ _ w4, a1, cal_s, Nat.sub_self, fe]
      exact ⟨z2, rfl, by rw [show rL (fB Q) 0 (v + 1) = [] from rfl, List.append_nil]; exact a2, by rw [a3]; exact f14⟩
    · have fe : fB Q v = nB (Q v).2.2.1 8 := by unfold fB; rw [c]; rfl
      have hu2 := lf (by omega)
      subst hu2
      obtain ⟨z2, a1, a2, a3⟩ := w4.num (F := F) (c := 8) (by omega) (by omega) (by omega) (Q v).2.2.1
      rw [c, if_neg (by decide), if_neg (by decide), if_pos (show nI 3 = 3 from rfl), hz.2.2 337 18 372 rfl, lnk_s, hz.2.2 337 12 347 rfl, lnk_s, ok 347 102 rfl (by decide), grd_true, dg, grd_true, i47 _ _ w4, show (8 : Int32) = nI 8 from rfl, a1, cal_s, Nat.sub_self, fe]
      exact ⟨z2, rfl, by rw [show rL (fB Q) 0 (v + 1) = [] from rfl, List.append_nil]; exact a2, by rw [a3]; exact f14⟩
    · have fe : fB Q v = nB (Q v).2.1 8 ++ nB (Q v).2.2.1 8 := by unfold fB; rw [c]; rfl
      have hu2 := lf (by omega)
      subst hu2
      obtain ⟨z2, a1, a2, a3⟩ := w4.num (F := F) (c := 8) (by omega) (by omega) (by omega) (Q v).2.1
      have hz2 := a2.lay hL
      obtain ⟨z3, b1, b2, b3⟩ := a2.num (F := F) (c := 8) (by omega) (by omega) (by rw [List.length_append, nB_len]; omega) (Q v).2.2.1
      rw [c, if_neg (by decide), if_neg (by decide), if_neg (by decide), if_pos (show nI 4 = 4 from rfl), hz.2.2 337 18 372 rfl, lnk_s, hz.2.2 337 11 346 rfl, lnk_s, ok 346 102 rfl (by decide), grd_true, dg, grd_true, i46 _ _ w4, show (8 : Int32) = nI 8 from rfl, a1, cal_s, hz2.2.2 337 18 372 rfl, lnk_s, hz2.2.2 337 12 347 rfl, lnk_s, ok 347 102 rfl (by decide), grd_true, dg, grd_true, i47 _ _ a2, b1, cal_s, Nat.sub_self, fe]
      exact ⟨z3, rfl, by rw [show rL (fB Q) 0 (v + 1) = [] from rfl, List.append_nil, ← List.append_assoc]; exact b2, by rw [b3, a3]; exact f14⟩
    · have fe : fB Q v = nB (Q v).2.2.1 8 := by unfold fB; rw [c]; rfl
      have hu2 := lf (by omega)
      subst hu2
      obtain ⟨z2, a1, a2, a3⟩ := w4.num (F := F) (c := 8) (by omega) (by omega) (by omega) (Q v).2.2.1
      rw [c, if_neg (by decide), if_neg (by decide), if_neg (by decide), if_neg (by decide), if_pos (show nI 5 = 5 from rfl), hz.2.2 337 18 372 rfl, lnk_s, hz.2.2 337 12 347 rfl, lnk_s, ok 347 102 rfl (by decide), grd_true, dg, grd_true, i47 _ _ w4, show (8 : Int32) = nI 8 from rfl, a1, cal_s, Nat.sub_self, fe]
      exact ⟨z2, rfl, by rw [show rL (fB Q) 0 (v + 1) = [] from rfl, List.append_nil]; exact a2, by rw [a3]; exact f14⟩
    · have fe : fB Q v = [] := by unfold fB; rw [c]; rfl
      obtain ⟨y0, z3, y1, y2, y3⟩ := list (kds Q v) (v + 1) u 0 F _ l p4 hu w4 f14 (by omega) (by omega) (by omega)
      rw [c, if_neg (by decide), if_neg (by decide), if_neg (by decide), if_neg (by decide), if_neg (by decide), lnk_s, ok 345 100 rfl (by decide), grd_true, i45, c, if_neg (by decide), fe, List.nil_append]
      unfold fn_X18_addOne_B144
      exact ⟨z3, y1, y2, y3⟩
    · have fe : fB Q v = nB (lN (kds Q v).length) 2 := by unfold fB; rw [c]; rfl
      obtain ⟨z2, a1, a2, a3⟩ := w4.num (F := F) (c := 2) (by omega) (by omega) (by omega) (lN (kds Q v).length)
      obtain ⟨y0, z3, y1, y2, y3⟩ := list (kds Q v) (v + 1) u 0 F _ _ p4 hu a2 (by rw [a3]; exact f14) (by rw [List.length_append, nB_len]; omega) (by omega) (by omega)
      rw [c, if_neg (by decide), if_neg (by decide), if_neg (by decide), if_neg (by decide), if_neg (by decide), lnk_s, ok 345 100 rfl (by decide), grd_true, i45, c, if_pos (show nI 7 = 7 from rfl), hz.2.2 337 18 372 rfl, lnk_s, hz.2.2 337 13 348 rfl, lnk_s, ok 348 101 rfl (by decide), grd_true, dg, grd_true, i48, nI_l (by omega), show (2 : Int32) = nI 2 from rfl, a1, cal_s, fe, ← List.append_assoc]
      unfold fn_X18_addOne_B144
      exact ⟨z3, y1, y2, y3⟩
theorem addBytes_t (hF : 100 ≤ F) (hL : Lay sh n z) {i : Nat} (hi : i < 256) (kp : Kep z Q (64 * i) 0 sz) (h64 : sz ≤ 64) (hp : Pre Q 48 0 sz) (hco : ∀ w, w < sz → (Q w).1 ≤ 5 → kds Q w = []) (w : WBm sh n z z1 l) (hl : l.length ≤ 1000) : ∃ z2, fn_X18_addBytes F sh n z1 337 (nI i) = some (z2, ()) ∧ WBm sh n z z2 (l ++ rL (fB Q) sz 0) := by
  obtain ⟨z2, a1, a2, a3⟩ := ad_one (F := F) hF hL kp h64 hco 48 0 sz _ l hp (Nat.le_refl _) (w.k14 (nI (64 * i + 0))) si_ss (by omega)
  refine ⟨z2, ?_, by rw [Nat.sub_zero] at a2; exact a2⟩
  unfold fn_X18_addBytes
  rw [(b_model (w.lay hL)).1, grd_true, lt_t, show (64 * nI i : Int32) = nI (64 * i + 0) by rw [show (64 : Int32) = nI 64 from rfl, pk_mul, Nat.add_zero], a1, cal_s]
end
