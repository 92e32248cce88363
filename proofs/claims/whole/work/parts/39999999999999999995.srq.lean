/-! THE CLASS'S READER: lists of types, foreign functions -/
def lv {α : Type} (R : Ex (List α × Nat)) : List α := match R with | .ok q => q.1 | .error _ => []
theorem cu_c {α β : Type} (x : Ex (α × Nat)) (f : Nat → Ex (β × Nat)) : (cu x >>= f) = (x >>= fun q => f q.2) := by cases x <;> rfl
theorem cu_t {α β : Type} (x : Ex (α × Nat)) (f : α × Nat → β) : cu (x >>= fun q => .ok (f q, q.2)) = cu x := by cases x <;> rfl
theorem cu_ok {α : Type} {x : Ex (α × Nat)} {p : Nat} (h : cu x = .ok p) : ∃ q, x = .ok q ∧ q.2 = p := by
  cases x with
  | error e => cases h
  | ok q => cases h; exact ⟨q, rfl, rfl⟩
def flC (cs : List CP) : List Ty := (cs.map (fun c => c.2.1 ++ c.2.2)).flatten
def CRo (z : St) (kp : Nat) (b : Nat → Nat) (i off : Nat) (c : CP) : Prop := z.1 (kp + 4) (9 * i + 0) = nI (b (c.1 + 3)) ∧ z.1 (kp + 4) (9 * i + 1) = nI off ∧ z.1 (kp + 4) (9 * i + 2) = nI c.2.1.length ∧ z.1 (kp + 4) (9 * i + 3) = nI c.2.2.length ∧ z.1 (kp + 4) (9 * i + 4) = nI 0 ∧ z.1 (kp + 4) (9 * i + 6) = nI 0 ∧ z.1 (kp + 4) (9 * i + 7) = nI (shB b c.1) ∧ z.1 (kp + 4) (9 * i + 8) = nI (b (c.1 + 2))
def RoC (z : St) (kp : Nat) (b : Nat → Nat) (i off : Nat) (cs : List CP) : Prop := ∀ k, k < cs.length → CRo z kp b (i + k) (off + (flC (cs.take k)).length) (cs.getD k dCP)
section
variable {F n : Nat} {sh : Nat → Nat × Nat} {z z' : St} {kp kb len : Nat} {b : Nat → Nat} {J : Bool} {r : Ex Nat} {ks js hs : List Nat} {Jo : Option JI}
theorem jAll_s (ej : Jo.isSome = J) : (jAll Jo).isSome = J := by rw [← ej]; cases Jo <;> rfl
theorem KX.list (hF : 300 ≤ F) (h : KX sh n z kp kb b len J r) {jo : Option Nat} (ej : jo.isSome = J) (hj : ∀ m, jo = some m → z.1 kp 9 = nI m ∧ m < 256) {most : Nat} {im : Int32} (em : im = nI most) (hm : most < 256) {T : List Ty} (hT : ∀ p, r = .ok p → TyT z kp T ∧ T.length ≤ p) : ∃ z' v, fn_X6_readList F sh n z 60 im = some (z', nI v) ∧ v ≤ most ∧ KX sh n z' kp kb b len J (cu (r >>= pLs b len jo most)) ∧ (∀ p, cu (r >>= pLs b len jo most) = .ok p → TyT z' kp (T ++ lv (r >>= pLs b len jo most)) ∧ (T ++ lv (r >>= pLs b len jo most)).length ≤ p ∧ v = (lv (r >>= pLs b len jo most)).length) ∧ FrKd kp [kp + 1] [4] [0, 1, 3] z z' := by
  obtain ⟨z1, a1, a2, a3⟩ := h.number (F := F) (lo := 0) (hi := most) (il := 0) (ih := im) rfl em (by omega) hm
  have v16 : vN (r >>= rN b len 0 most) ≤ most := vN_rN hm
  have eqn : (cu (r >>= rN b len 0 most) >>= pTs b len jo true (vN (r >>= rN b len 0 most))) = (r >>= pLs b len jo most) := by
    cases r with
    | error e => rfl
    | ok p =>
      rw [ok_bq, ok_bq]
      unfold pLs
      cases rN b len 0 most p <;> rfl
  obtain ⟨z2, j1, j2, j3, j4⟩ := KX.types (F := F) (jo := jo) hF ej (cnt := vN (r >>= rN b len 0 most)) (by omega) (rf := true) _ 0 F z1 (cu (r >>= rN b len 0 most)) T (Nat.zero_add _) (by omega) a2 (fun m y => by rw [a3.2.2.2.1 9 (by simp)]; exact hj m y) (fun p' y => by
    obtain ⟨q, y1, y2⟩ := cu_ok y
    obtain ⟨p, y3, y4⟩ := bq_ok y1
    have := hT p y3
    obtain ⟨_, eq, _⟩ := rN_ok y4
    subst eq
    exact ⟨this.1.fr a3 (by simp) (by simp), by rw [← y2]; show T.length ≤ p + 1; omega⟩)
  rw [eqn] at j2 j3
  refine ⟨z2, vN (r >>= rN b len 0 most), ?_, v16, j2, ?_, (a3.g (by simp)).trans j4⟩
  · unfold fn_X6_readList fn_X6_readTypes
    have j1' : fn_X6_readTypes_L2 F sh n (nI (vN (r >>= rN b len 0 most))) 60 1 F z1 0 = some (z2, ()) := j1
    rw [h.1.o, grd_true, a1, cal_s, j1', cal_s]
  · intro p y
    obtain ⟨q, y1, y2⟩ := cu_ok y
    have := j3 q y1
    rw [y1]
    refine ⟨this.1, by rw [← y2]; exact this.2, ?_⟩
    obtain ⟨p0, y3, y4⟩ := bq_ok y1
    unfold pLs at y4
    obtain ⟨a, y5, y6⟩ := bq_ok y4
    rw [y3, ok_bq, y5]
    exact (pTs_le _ y6).2.symm
theorem flC_c (s : CP) (ss : List CP) : flC (s :: ss) = s.2.1 ++ s.2.2 ++ flC ss := rfl
theorem RoC.cons {i off : Nat} {s : CP} {ss : List CP} (h1 : CRo z kp b i off s) (h2 : RoC z kp b (i + 1) (off + (s.2.1 ++ s.2.2).length) ss) : RoC z kp b i off (s :: ss) := by
  intro k hk
  cases k with
  | zero => exact h1
  | succ k =>
    have := h2 k (by simpa using hk)
    rw [List.take_succ_cons, flC_c, List.length_append, ← Nat.add_assoc off, show i + (k + 1) = i + 1 + k by omega]
    exact this
theorem CRo.fr {i off : Nat} {s : CP} (h : CRo z kp b i off s) (f : ∀ x, x < 9 * i + 9 → z'.1 (kp + 4) x = z.1 (kp + 4) x) : CRo z' kp b i off s := by
  unfold CRo
  rw [f _ (by omega), f _ (by omega), f _ (by omega), f _ (by omega), f _ (by omega), f _ (by omega), f _ (by omega), f _ (by omega)]
  exact h
theorem KX.ffn1 (hF : 300 ≤ F) {p : Nat} (h : KX sh n z kp kb b len J (.ok p)) (ej : Jo.isSome = J) (hj : ∀ m, jAll Jo = some m → z.1 kp 9 = nI m ∧ m < 256) {T : List Ty} {i : Nat} (T0 : TyT z kp T) (tl : T.length ≤ p) (hi : i < 96) {K : St → Option (St × Unit)} : ∃ z', cal (fn_X6_readShort F sh n z 60) (fun z_18 r_19 => grd (okO sh n kp 5) (cal (fn_X5_setFunction F sh n z_18 kp (nI i) 7 r_19) (fun z_21 _ => lnk (z_21.2.2 60 2) (fun k_24 => cal (fn_X6_readByte F sh n z_21 60) (fun z_25 r_26 => grd (okO sh n k_24 5) (cal (fn_X5_setFunction F sh n z_25 k_24 (nI i) 8 r_26) (fun z_28 _ => lnk (z_28.2.2 60 2) (fun k_31 => cal (fn_X6_readNumber F sh n z_28 60 0 7) (fun z_32 r_33 => grd (okO sh n k_31 5) (cal (fn_X5_setFunction F sh n z_32 k_31 (nI i) 0 r_33) (fun z_35 _ => lnk (z_35.2.2 60 2) (fun k_38 => lnk (z_35.2.2 60 2) (fun k_39 => grd (okO sh n k_39 5) (grd (okO sh n k_38 5) (cal (fn_X5_setFunction F sh n z_35 k_38 (nI i) 1 (z_35.1 k_39 4)) (fun z_41 _ => lnk (z_41.2.2 60 2) (fun k_44 => cal (fn_X6_readList F sh n z_41 60 8) (fun z_45 r_46 => grd (okO sh n k_44 5) (cal (fn_X5_setFunction F sh n z_45 k_44 (nI i) 2 r_46) (fun z_48 _ => lnk (z_48.2.2 60 2) (fun k_51 => cal (fn_X6_readList F sh n z_48 60 8) (fun z_52 r_53 => grd (okO sh n k_51 5) (cal (fn_X5_setFunction F sh n z_52 k_51 (nI i) 3 r_53) (fun z_55 _ => lnk (z_55.2.2 60 2) (fun k_58 => grd (okO sh n k_58 5) (cal (fn_X5_setFunction F sh n z_55 k_58 (nI i) 4 0) (fun z_59 _ => lnk (z_59.2.2 60 2) (fun k_62 => grd (okO sh n k_62 5) (cal (fn_X5_setFunction F sh n z_59 k_62 (nI i) 6 0) (fun z_63 _ => K z_63)))))))))))))))))))))))))))))) = K z' ∧ KX sh n z' kp kb b len J (cu (gCa b len Jo p)) ∧ (∀ c, gCa b len Jo p = .ok c → TyT z' kp (T ++ (c.1.2.1 ++ c.1.2.2)) ∧ (T ++ (c.1.2.1 ++ c.1.2.2)).length ≤ c.2 ∧ CRo z' kp b i T.length c.1) ∧ (∀ x, x < 9 * i → z'.1 (kp + 4) x = z.1 (kp + 4) x) ∧ FrKd kp [kp + 1, kp + 4] [4] [0, 1, 3] z z' := by
  have hk := isP_ne h.1.2.1
  have ejn := jAll_s ej
  obtain ⟨z1, v1, a1, a2, a3, a4, a5⟩ := h.short (F := F)
  obtain ⟨z2, b1, b2, b3, b4, b5⟩ := a4.setF (F := F) (i := i) (c := 7) (ic := 7) rfl (by omega) (by omega) (nI v1)
  obtain ⟨z3, c1, c2, c3⟩ := b2.byte (F := F)
  obtain ⟨z4, d1, d2, d3, d4, d5⟩ := c2.setF (F := F) (i := i) (c := 8) (ic := 8) rfl (by omega) (by omega) (nI (vN (cu (.ok p >>= sk len 2) >>= rBy b len)))
  obtain ⟨z5, f1, f2, f3⟩ := d2.number (F := F) (lo := 0) (hi := 7) (il := 0) (ih := 7) rfl rfl (by omega) (by omega)
  obtain ⟨z6, g1, g2, g3, g4, g5⟩ := f2.setF (F := F) (i := i) (c := 0) (ic := 0) rfl (by omega) (by omega) (nI (vN (cu (cu (.ok p >>= sk len 2) >>= rBy b len) >>= rN b len 0 7)))
  have m1 : FrKd kp [kp + 1, kp + 4] [4] [0, 1, 3] z z1 := a5.g (by simp)
  have m2 : FrKd kp [kp + 1, kp + 4] [4] [0, 1, 3] z z2 := m1.trans (b3.mono (by simp) (by simp) (by simp))
  have m3 : FrKd kp [kp + 1, kp + 4] [4] [0, 1, 3] z z3 := m2.trans (c3.g (by simp))
  have m4 : FrKd kp [kp + 1, kp + 4] [4] [0, 1, 3] z z4 := m3.trans (d3.mono (by simp) (by simp) (by simp))
  have m5 : FrKd kp [kp + 1, kp + 4] [4] [0, 1, 3] z z5 := m4.trans (f3.g (by simp))
  have m6 : FrKd kp [kp + 1, kp + 4] [4] [0, 1, 3] z z6 := m5.trans (g3.mono (by simp) (by simp) (by simp))
  have n6 : FrKd kp [kp + 4] [] [0, 1, 3] z z6 := (((((a5.g (ks := [kp + 4]) (js := []) (by simp)).trans (b3.mono (by simp) (by simp) (by simp))).trans (c3.g (by simp))).trans (d3.mono (by simp) (by simp) (by simp))).trans (f3.g (by simp))).trans (g3.mono (by simp) (by simp) (by simp))
  obtain ⟨z7, h1, h2, h3, h4, h5⟩ := g2.setF (F := F) (i := i) (c := 1) (ic := 1) rfl (by omega) (by omega) (z6.1 kp 4)
  have n7 : FrKd kp [kp + 4] [] [0, 1, 3] z z7 := n6.trans (h3.mono (by simp) (by simp) (by simp))
  have m7 : FrKd kp [kp + 1, kp + 4] [4] [0, 1, 3] z z7 := n7.mono (by simp) (by simp) (by simp)
  have rr : cu (cu (cu (.ok p >>= sk len 2) >>= rBy b len) >>= rN b len 0 7) = cu (sk len 3 p >>= fun s => rN b len 0 7 s.2) := by
    rw [cu_c, cu_c, ok_bq, bq_as]
    exact congrArg cu (sk3 p (fun x => rN b len 0 7 x))
  have rp : ∀ p', cu (sk len 3 p >>= fun s => rN b len 0 7 s.2) = .ok p' → p' = p + 4 := fun p' y => by
    obtain ⟨q, y1, y2⟩ := cu_ok y
    obtain ⟨s, y3, y4⟩ := bq_ok y1
    have es := sk_i y3
    subst es
    obtain ⟨_, eq, _⟩ := rN_ok y4
    subst eq
    exact y2.symm
  rw [rr] at h2
  obtain ⟨z8, v8, i1, i2, i3, i4, i5⟩ := h2.list (F := F) hF ejn (fun m y => by rw [n7.2.2.2.1 9 (by simp)]; exact hj m y) (most := 8) (im := 8) rfl (by omega) (T := T) (fun p' y => ⟨T0.fr n7 (by simp) (by simp), by rw [rp p' y]; omega⟩)
  obtain ⟨z9, j1, j2, j3, j4, j5⟩ := i3.setF (F := F) (i := i) (c := 2) (ic := 2) rfl (by omega) (by omega) (nI v8)
  have m8 : FrKd kp [kp + 1, kp + 4] [4] [0, 1, 3] z z8 := m7.trans (i5.mono (by simp) (by simp) (by simp))
  have m9 : FrKd kp [kp + 1, kp + 4] [4] [0, 1, 3] z z9 := m8.trans (j3.mono (by simp) (by simp) (by simp))
  obtain ⟨z10, v10, k1, k2, k3, k4, k5⟩ := j2.list (F := F) hF ejn (fun m y => by rw [m9.2.2.2.1 9 (by simp)]; exact hj m y) (most := 8) (im := 8) rfl (by omega) (fun p' y => ⟨(i4 p' y).1.fr j3 (by simp) (by simp), (i4 p' y).2.1⟩)
  obtain ⟨z11, l1, l2, l3, l4, l5⟩ := k3.setF (F := F) (i := i) (c := 3) (ic := 3) rfl (by omega) (by omega) (nI v10)
  obtain ⟨z12, o1, o2, o3, o4, o5⟩ := l2.setF (F := F) (i := i) (c := 4) (ic := 4) rfl (by omega) (by omega) 0
  obtain ⟨z13, p1, p2, p3, p4, p5⟩ := o2.setF (F := F) (i := i) (c := 6) (ic := 6) rfl (by omega) (by omega) 0
  have m10 : FrKd kp [kp + 1, kp + 4] [4] [0, 1, 3] z z10 := m9.trans (k5.mono (by simp) (by simp) (by simp))
  have m11 : FrKd kp [kp + 1, kp + 4] [4] [0, 1, 3] z z11 := m10.trans (l3.mono (by simp) (by simp) (by simp))
  have m12 : FrKd kp [kp + 1, kp + 4] [4] [0, 1, 3] z z12 := m11.trans (o3.mono (by simp) (by simp) (by simp))
  have m13 : FrKd kp [kp + 1, kp + 4] [4] [0, 1, 3] z z13 := m12.trans (p3.mono (by simp) (by simp) (by simp))
  have row10 : ∀ x, z10.1 (kp + 4) x = z9.1 (kp + 4) x := fun x => by rw [k5.2.1 (kp + 4) (by omega) (by omega) (by simp)]
  have row8 : ∀ x, z8.1 (kp + 4) x = z7.1 (kp + 4) x := fun x => by rw [i5.2.1 (kp + 4) (by omega) (by omega) (by simp)]
  have row5 : ∀ x, z5.1 (kp + 4) x = z4.1 (kp + 4) x := fun x => by rw [f3.2.1 (kp + 4) (by omega) (by omega) (by simp)]
  have row3 : ∀ x, z3.1 (kp + 4) x = z2.1 (kp + 4) x := fun x => by rw [c3.2.1 (kp + 4) (by omega) (by omega) (by simp)]
  have row1 : ∀ x, z1.1 (kp + 4) x = z.1 (kp + 4) x := fun x => by rw [a5.2.1 (kp + 4) (by omega) (by omega) (by simp)]
  have eqn : cu (cu (cu (sk len 3 p >>= fun s => rN b len 0 7 s.2) >>= pLs b len (jAll Jo) 8) >>= pLs b len (jAll Jo) 8) = cu (gCa b len Jo p) := by
    unfold gCa
    cases sk len 3 p with
    | error w => rfl
    | ok s =>
      rw [ok_bq, ok_bq]
      cases rN b len 0 7 s.2 with
      | error w => rfl
      | ok a =>
        rw [ok_bq]
        show cu (cu (pLs b len (jAll Jo) 8 a.2) >>= pLs b len (jAll Jo) 8) = _
        cases pLs b len (jAll Jo) 8 a.2 with
        | error w => rfl
        | ok t =>
          rw [ok_bq]
          show cu (pLs b len (jAll Jo) 8 t.2) = _
          cases pLs b len (jAll Jo) 8 t.2 <;> rfl
  rw [eqn] at p2
  refine ⟨z13, ?_, p2, ?_, ?_, m13⟩
  · rw [a1, cal_s, h.1.p, grd_true, b1, cal_s, m2.1, h.1.2.2.1, lnk_s, c1, cal_s, h.1.p, grd_true, d1, cal_s, m4.1, h.1.2.2.1, lnk_s, f1, cal_s, h.1.p, grd_true, g1, cal_s, m6.1, h.1.2.2.1, lnk_s, lnk_s, h.1.p, grd_true, grd_true, h1, cal_s, m7.1, h.1.2.2.1, lnk_s, i1, cal_s, h.1.p, grd_true, j1, cal_s, m9.1, h.1.2.2.1, lnk_s, k1, cal_s, h.1.p, grd_true, l1, cal_s, m11.1, h.1.2.2.1, lnk_s, h.1.p, grd_true, o1, cal_s, m12.1, h.1.2.2.1, lnk_s, h.1.p, grd_true, p1, cal_s]
  · intro c y
    unfold gCa at y
    obtain ⟨s, y1, y⟩ := bq_ok y
    obtain ⟨a, y2, y⟩ := bq_ok y
    obtain ⟨t, y3, y⟩ := bq_ok y
    obtain ⟨g, y4, y⟩ := bq_ok y
    cases y
    have sl := sk_ok y1
    have es := sk_i y1
    subst es
    have y2' : rN b len 0 7 (p + 3) = .ok a := y2
    obtain ⟨_, ea, _⟩ := rN_ok y2'
    subst ea
    have e1 : sk len 2 p = .ok ((), p + 2) := by unfold sk; rw [if_pos (by omega)]
    have e2 : rBy b len (p + 2) = .ok (b (p + 2), p + 3) := by unfold rBy; rw [if_pos (by omega)]
    have r7 : (sk len 3 p >>= fun s => rN b len 0 7 s.2) = .ok (b (p + 3), p + 4) := by rw [y1, ok_bq]; exact y2'
    rw [r7] at i4 k4
    have x1 : (cu (.ok (b (p + 3), p + 4) : Ex (Nat × Nat)) >>= pLs b len (jAll Jo) 8) = .ok t := y3
    rw [x1] at i4 k4
    have x2 : (cu (.ok t : Ex (List Ty × Nat)) >>= pLs b len (jAll Jo) 8) = .ok g := y4
    rw [x2] at k4
    have i4' : TyT z8 kp (T ++ t.1) ∧ (T ++ t.1).length ≤ t.2 ∧ v8 = t.1.length := i4 t.2 rfl
    have k4' : TyT z10 kp (T ++ t.1 ++ g.1) ∧ (T ++ t.1 ++ g.1).length ≤ g.2 ∧ v10 = g.1.length := k4 g.2 rfl
    rw [List.append_assoc] at k4'
    refine ⟨((k4'.1.fr l3 (by simp) (by simp)).fr o3 (by simp) (by simp)).fr p3 (by simp) (by simp), k4'.2.1, ?_, ?_, ?_, ?_, ?_, ?_, ?_, ?_⟩
    · rw [p5 _ (by omega), o5 _ (by omega), l5 _ (by omega), row10, j5 _ (by omega), row8, h5 _ (by omega), g4, ok_bq, e1]
      show nI (vN (cu (rBy b len (p + 2)) >>= rN b len 0 7)) = _
      rw [e2]
      show nI (vN (rN b len 0 7 (p + 3))) = _
      rw [y2']; rfl
    · rw [p5 _ (by omega), o5 _ (by omega), l5 _ (by omega), row10, j5 _ (by omega), row8, h4, n6.2.2.2.1 4 (by simp)]
      exact T0.1
    · rw [p5 _ (by omega), o5 _ (by omega), l5 _ (by omega), row10, j4, i4'.2.2]
    · rw [p5 _ (by omega), o5 _ (by omega), l4, k4'.2.2]
    · rw [p5 _ (by omega), o4]; rfl
    · rw [p4]; rfl
    · rw [p5 _ (by omega), o5 _ (by omega), l5 _ (by omega), row10, j5 _ (by omega), row8, h5 _ (by omega), g5 _ (by omega), row5, d5 _ (by omega), row3, b4, a3 p rfl (by omega)]
    · rw [p5 _ (by omega), o5 _ (by omega), l5 _ (by omega), row10, j5 _ (by omega), row8, h5 _ (by omega), g5 _ (by omega), row5, d4, ok_bq, e1]
      show nI (vN (rBy b len (p + 2))) = _
      rw [e2]; rfl
  · intro x hx
    rw [p5 _ (by omega), o5 _ (by omega), l5 _ (by omega), row10, j5 _ (by omega), row8, h5 _ (by omega), g5 _ (by omega), row5, d5 _ (by omega), row3, b5 _ (by omega), row1]
theorem KX.ffns (hF : 300 ≤ F) (ej : Jo.isSome = J) {fo : Nat} (ho : fo ≤ 32) : ∀ m i g z r T, i + m = fo → m < g → KX sh n z kp kb b len J r → (∀ m, jAll Jo = some m → z.1 kp 9 = nI m ∧ m < 256) → z.1 kp 12 = nI fo → (∀ p, r = .ok p → TyT z kp T ∧ T.length ≤ p) → ∃ z', fn_X6_readForeignFunctions_L16 F sh n 60 g z (nI i) = some (z', ()) ∧ KX sh n z' kp kb b len J (cu (r >>= gCas b len Jo m)) ∧ (∀ q, (r >>= gCas b len Jo m) = .ok q → TyT z' kp (T ++ flC q.1) ∧ (T ++ flC q.1).length ≤ q.2 ∧ RoC z' kp b (64 + i) T.length q.1) ∧ (∀ x, x < 9 * (64 + i) → z'.1 (kp + 4) x = z.1 (kp + 4) x) ∧ FrKd kp [kp + 1, kp + 4] [4] [0, 1, 3] z z' := by
  intro m
  induction m with
  | zero =>
    intro i g z r T ei hg h hj e8 hT
    obtain ⟨g, rfl⟩ : ∃ q, g = q + 1 := ⟨g - 1, by omega⟩
    unfold fn_X6_readForeignFunctions_L16
    rw [h.1.2.2.1, lnk_s, h.1.p, grd_true, e8, if_pos ((nI_leI (by omega) (by omega)).mpr (by omega))]
    refine ⟨z, rfl, ?_, ?_, fun _ _ => rfl, FrKd.rfl'⟩
    · cases r with
      | error e => exact h
      | ok p => exact h
    · intro q e
      cases r with
      | error e' => cases e
      | ok p =>
        rw [ok_bq] at e
        cases e
        have := hT p rfl
        refine ⟨?_, ?_, fun k hk => absurd hk (by simp)⟩
        · rw [show flC [] = [] from rfl, List.append_nil]; exact this.1
        · rw [show flC [] = [] from rfl, List.append_nil]; exact this.2
  | succ m ih =>
    intro i g z r T ei hg h hj e8 hT
    obtain ⟨g, rfl⟩ : ∃ q, g = q + 1 := ⟨g - 1, by omega⟩
    unfold fn_X6_readForeignFunctions_L16
    rw [h.1.2.2.1, lnk_s, h.1.p, grd_true, e8, if_neg (fun y => by have := (nI_leI (by omega) (by omega)).mp y; omega)]
    cases r with
    | error e =>
      rw [if_neg h.ne0]
      exact ⟨z, rfl, h, fun q y => (by cases y), fun _ _ => rfl, FrKd.rfl'⟩
    | ok p =>
      obtain ⟨T0, tl⟩ := hT p rfl
      obtain ⟨z1, s1, s2, s3, s4, s5⟩ := h.ffn1 (F := F) hF ej hj T0 tl (i := 64 + i) (by omega) (K := fun z => fn_X6_readForeignFunctions_L16 F sh n 60 g z (nI i + 1))
      rw [if_pos h.is0, lt_t, lnk_s, show (64 : Int32) + nI i = nI (64 + i) from nI_add 64 i, s1, nI_1, ok_bq]
      obtain ⟨z2, t1, t2, t3, t4, t5⟩ := ih (i + 1) g z1 (cu (gCa b len Jo p)) (T ++ (match gCa b len Jo p with | .ok c => c.1.2.1 ++ c.1.2.2 | .error _ => [])) (by omega) (by omega) s2 (fun m y => by rw [s5.2.2.2.1 9 (by simp)]; exact hj m y) (by rw [s5.2.2.2.1 12 (by simp)]; exact e8) (fun p' y => by
        cases e : gCa b len Jo p with
        | error w => rw [e] at y; cases y
        | ok c =>
          rw [e] at y
          cases y
          have := s3 c e
          exact ⟨this.1, this.2.1⟩)
      refine ⟨z2, t1, ?_, ?_, fun x hx => (t4 x (by omega)).trans (s4 x hx), s5.trans t5⟩
      · unfold gCas
        cases e : gCa b len Jo p with
        | error w => rw [e] at t2; exact t2
        | ok c =>
          rw [e] at t2
          rw [ok_bq]
          have t2' : KX sh n z2 kp kb b len J (cu (gCas b len Jo m c.2)) := t2
          cases e' : gCas b len Jo m c.2 with
          | error w => rw [e'] at t2'; exact t2'
          | ok d => rw [e'] at t2'; exact t2'
      · intro q y
        unfold gCas at y
        obtain ⟨c, y1, y⟩ := bq_ok y
        obtain ⟨d, y2, y⟩ := bq_ok y
        cases y
        rw [y1] at t3
        have := t3 d y2
        have s3' := s3 c y1
        have this' : TyT z2 kp (T ++ (c.1.2.1 ++ c.1.2.2) ++ flC d.1) ∧ (T ++ (c.1.2.1 ++ c.1.2.2) ++ flC d.1).length ≤ d.2 ∧ RoC z2 kp b (64 + (i + 1)) (T ++ (c.1.2.1 ++ c.1.2.2)).length d.1 := this
        rw [List.append_assoc] at this'
        refine ⟨this'.1, this'.2.1, RoC.cons (s3'.2.2.fr (fun x hx => t4 x (by omega))) ?_⟩
        have t6 := this'.2.2
        rw [List.length_append] at t6
        exact t6
end
