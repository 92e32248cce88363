/-! THE CLASS'S READER: all functions -/
section
variable {F n : Nat} {sh : Nat → Nat × Nat} {z z' : St} {kp kb len : Nat} {b : Nat → Nat} {J : Bool} {r : Ex Nat} {ks js hs : List Nat} {Jo : Option JI}
theorem gIs_le {loc many : Nat} : ∀ (k : Nat) {p : Nat} {q : List Nat × Nat}, gIs b len Jo loc many k p = .ok q → p ≤ q.2
  | 0, p, q, h => by cases h; exact Nat.le_refl _
  | k + 1, p, q, h => by
    unfold gIs at h
    obtain ⟨a, y1, h⟩ := bq_ok h
    obtain ⟨c, y2, h⟩ := bq_ok h
    cases h
    have x1 := gI1_lt y1
    have x2 := gIs_le k y2
    show p ≤ c.2
    omega
abbrev FrFs (kp : Nat) (z z' : St) : Prop := FrKd kp [kp + 1, kp + 2, kp + 4] [4, 6] [0, 1, 3, 5, 6, 7] z z'
/-- a function's tables, as they stand so far -/
def FnT (z : St) (kp nm : Nat) (T0 : List Ty) (gs : List GP) (p : Nat) : Prop := TyT z kp (T0 ++ flG gs) ∧ (T0 ++ flG gs).length ≤ p ∧ SrT z kp (allC gs) ∧ (allC gs).length < p ∧ z.1 60 5 = nI (allC gs).length ∧ (allC gs).length ≤ 8192 ∧ RoG z kp nm T0.length gs
theorem KX.fn1 (hF : 1100 ≤ F) {p : Nat} (h : KX sh n z kp kb b len J (.ok p)) (ej : Jo.isSome = J) (hG : HG z kp Jo) {T0 : List Ty} {nm : Nat} {gs : List GP} (hT : FnT z kp nm T0 gs p) (e2 : z.1 kp 2 = nI nm) (hi : gs.length < 64) {ko : St → Int32 → Option (St × Unit)} : ∃ z', cal (fn_X5_setFunction F sh n z kp (nI gs.length) 7 (z.1 kp 2)) (fun z_17 _ => lnk (z_17.2.2 60 2) (fun k_20 => grd (okO sh n k_20 5) (cal (fn_X5_setFunction F sh n z_17 k_20 (nI gs.length) 8 (nI gs.length)) (fun z_21 _ => lnk (z_21.2.2 60 2) (fun k_24 => cal (fn_X6_readNumber F sh n z_21 60 0 7) (fun z_25 r_26 => grd (okO sh n k_24 5) (cal (fn_X5_setFunction F sh n z_25 k_24 (nI gs.length) 0 r_26) (fun z_28 _ => lnk (z_28.2.2 60 2) (fun k_31 => lnk (z_28.2.2 60 2) (fun k_32 => grd (okO sh n k_32 5) (grd (okO sh n k_31 5) (cal (fn_X5_setFunction F sh n z_28 k_31 (nI gs.length) 1 (z_28.1 k_32 4)) (fun z_34 _ => cal (fn_X6_readList F sh n z_34 60 8) (fun z_37 r_38 => lnk (z_37.2.2 60 2) (fun k_40 => grd (okO sh n k_40 5) (cal (fn_X5_setFunction F sh n z_37 k_40 (nI gs.length) 2 r_38) (fun z_41 _ => lnk (z_41.2.2 60 2) (fun k_44 => cal (fn_X6_readList F sh n z_41 60 8) (fun z_45 r_46 => grd (okO sh n k_44 5) (cal (fn_X5_setFunction F sh n z_45 k_44 (nI gs.length) 3 r_46) (fun z_48 _ => cal (fn_X6_readList F sh n z_48 60 32) (fun z_51 r_52 => lnk (z_51.2.2 60 2) (fun k_54 => grd (okO sh n k_54 5) (cal (fn_X5_setFunction F sh n z_51 k_54 (nI gs.length) 4 r_52) (fun z_55 _ => lt_ (si z_55 60 6 (r_38 + r_52)) (fun z_59 => lt_ (z_59.1 60 3) (fun v_60 => cal (fn_X6_readShort F sh n z_59 60) (fun z_61 r_62 => lt_ (si z_61 60 7 r_62) (fun z_65 => lt_ (si z_65 60 5 ((z_65.1 60 5) + (z_65.1 60 7))) (fun z_67 => if ((z_67.1 60 7) : Int32) < 1 then fn_X6_readFunctions_B204 F sh n 60 v_60 (nI gs.length) ko z_67 else if (1024 : Int32) < (z_67.1 60 7) then fn_X6_readFunctions_B204 F sh n 60 v_60 (nI gs.length) ko z_67 else if ((z_67.1 60 5) : Int32) ≤ 8192 then fn_X6_readFunctions_B211 F sh n 60 (nI gs.length) ko z_67 else fn_X6_readFunctions_B204 F sh n 60 v_60 (nI gs.length) ko z_67)))))))))))))))))))))))))))))) = ko z' (nI gs.length + 1) ∧ KX sh n z' kp kb b len J (cu (gFn b len Jo (allC gs).length p)) ∧ (∀ c, gFn b len Jo (allC gs).length p = .ok c → FnT z' kp nm T0 (gs ++ [c.1]) c.2) ∧ (∀ x, 9 * gs.length + 9 ≤ x → z'.1 (kp + 4) x = z.1 (kp + 4) x) ∧ FrFs kp z z' := by
  have hk := isP_ne h.1.2.1
  have ejn := jAll_s ej
  obtain ⟨T1, T2, T3, T4, T5, T6, T7⟩ := hT
  obtain ⟨z1, a1, a2, a3, a4, a5⟩ := h.setF (F := F) (i := gs.length) (c := 7) (ic := 7) rfl (by omega) (by omega) (z.1 kp 2)
  obtain ⟨z2, b1, b2, b3, b4, b5⟩ := a2.setF (F := F) (i := gs.length) (c := 8) (ic := 8) rfl (by omega) (by omega) (nI gs.length)
  obtain ⟨z3, c1, c2, c3⟩ := b2.number (F := F) (lo := 0) (hi := 7) (il := 0) (ih := 7) rfl rfl (by omega) (by omega)
  obtain ⟨z4, d1, d2, d3, d4, d5⟩ := c2.setF (F := F) (i := gs.length) (c := 0) (ic := 0) rfl (by omega) (by omega) (nI (vN (.ok p >>= rN b len 0 7)))
  obtain ⟨z5, f1, f2, f3, f4, f5⟩ := d2.setF (F := F) (i := gs.length) (c := 1) (ic := 1) rfl (by omega) (by omega) (z4.1 kp 4)
  have n1 : FrKd kp [kp + 4] [] [0, 1, 3] z z1 := a3.mono (by simp) (by simp) (by simp)
  have n2 : FrKd kp [kp + 4] [] [0, 1, 3] z z2 := n1.trans (b3.mono (by simp) (by simp) (by simp))
  have n3 : FrKd kp [kp + 4] [] [0, 1, 3] z z3 := n2.trans (c3.g (by simp))
  have n4 : FrKd kp [kp + 4] [] [0, 1, 3] z z4 := n3.trans (d3.mono (by simp) (by simp) (by simp))
  have n5 : FrKd kp [kp + 4] [] [0, 1, 3] z z5 := n4.trans (f3.mono (by simp) (by simp) (by simp))
  obtain ⟨z6, v6, g1, g2, g3, g4, g5⟩ := f2.list (F := F) (by omega) ejn (fun m y => by rw [n5.2.2.2.1 9 (by simp)]; exact hG.all m y) (most := 8) (im := 8) rfl (by omega) (T := T0 ++ flG gs) (fun p' y => ⟨T1.fr n5 (by simp) (by simp), by
    obtain ⟨q, y1, y2⟩ := cu_ok y
    rw [ok_bq] at y1
    obtain ⟨_, eq, _⟩ := rN_ok y1
    subst eq
    rw [← y2]; show _ ≤ p + 1; omega⟩)
  obtain ⟨z7, h1, h2, h3, h4, h5⟩ := g3.setF (F := F) (i := gs.length) (c := 2) (ic := 2) rfl (by omega) (by omega) (nI v6)
  have m5 : FrKd kp [kp + 1, kp + 4] [4] [0, 1, 3] z z5 := n5.mono (by simp) (by simp) (by simp)
  have m6 : FrKd kp [kp + 1, kp + 4] [4] [0, 1, 3] z z6 := m5.trans (g5.mono (by simp) (by simp) (by simp))
  have m7 : FrKd kp [kp + 1, kp + 4] [4] [0, 1, 3] z z7 := m6.trans (h3.mono (by simp) (by simp) (by simp))
  obtain ⟨z8, v8, i1, i2, i3, i4, i5⟩ := h2.list (F := F) (by omega) ejn (fun m y => by rw [m7.2.2.2.1 9 (by simp)]; exact hG.all m y) (most := 8) (im := 8) rfl (by omega) (fun p' y => ⟨(g4 p' y).1.fr h3 (by simp) (by simp), (g4 p' y).2.1⟩)
  obtain ⟨z9, j1, j2, j3, j4, j5⟩ := i3.setF (F := F) (i := gs.length) (c := 3) (ic := 3) rfl (by omega) (by omega) (nI v8)
  have m8 : FrKd kp [kp + 1, kp + 4] [4] [0, 1, 3] z z8 := m7.trans (i5.mono (by simp) (by simp) (by simp))
  have m9 : FrKd kp [kp + 1, kp + 4] [4] [0, 1, 3] z z9 := m8.trans (j3.mono (by simp) (by simp) (by simp))
  obtain ⟨z10, v10, k1, k2, k3, k4, k5⟩ := j2.list (F := F) (by omega) ejn (fun m y => by rw [m9.2.2.2.1 9 (by simp)]; exact hG.all m y) (most := 32) (im := 32) rfl (by omega) (fun p' y => ⟨(i4 p' y).1.fr j3 (by simp) (by simp), (i4 p' y).2.1⟩)
  obtain ⟨z11, l1, l2, l3, l4, l5⟩ := k3.setF (F := F) (i := gs.length) (c := 4) (ic := 4) rfl (by omega) (by omega) (nI v10)
  have m10 : FrKd kp [kp + 1, kp + 4] [4] [0, 1, 3] z z10 := m9.trans (k5.mono (by simp) (by simp) (by simp))
  have m11 : FrKd kp [kp + 1, kp + 4] [4] [0, 1, 3] z z11 := m10.trans (l3.mono (by simp) (by simp) (by simp))
  have row10 : ∀ x, z10.1 (kp + 4) x = z9.1 (kp + 4) x := fun x => by rw [k5.2.1 (kp + 4) (by omega) (by omega) (by simp)]
  have row8 : ∀ x, z8.1 (kp + 4) x = z7.1 (kp + 4) x := fun x => by rw [i5.2.1 (kp + 4) (by omega) (by omega) (by simp)]
  have row6 : ∀ x, z6.1 (kp + 4) x = z5.1 (kp + 4) x := fun x => by rw [g5.2.1 (kp + 4) (by omega) (by omega) (by simp)]
  have row3 : ∀ x, z3.1 (kp + 4) x = z2.1 (kp + 4) x := fun x => by rw [c3.2.1 (kp + 4) (by omega) (by omega) (by simp)]
  have rr : (cu (cu (cu (.ok p >>= rN b len 0 7) >>= pLs b len (jAll Jo) 8) >>= pLs b len (jAll Jo) 8) >>= pLs b len (jAll Jo) 32) = (rN b len 0 7 p >>= fun a => pLs b len (jAll Jo) 8 a.2 >>= fun t => pLs b len (jAll Jo) 8 t.2 >>= fun g => pLs b len (jAll Jo) 32 g.2) := by
    rw [ok_bq]
    cases rN b len 0 7 p with
    | error w => rfl
    | ok a =>
      show (cu (cu (pLs b len (jAll Jo) 8 a.2) >>= pLs b len (jAll Jo) 8) >>= pLs b len (jAll Jo) 32) = (pLs b len (jAll Jo) 8 a.2 >>= fun t => pLs b len (jAll Jo) 8 t.2 >>= fun g => pLs b len (jAll Jo) 32 g.2)
      cases pLs b len (jAll Jo) 8 a.2 with
      | error w => rfl
      | ok t =>
        show (cu (pLs b len (jAll Jo) 8 t.2) >>= pLs b len (jAll Jo) 32) = (pLs b len (jAll Jo) 8 t.2 >>= fun g => pLs b len (jAll Jo) 32 g.2)
        cases pLs b len (jAll Jo) 8 t.2 <;> rfl
  have ex : ∀ p', cu (cu (cu (cu (.ok p >>= rN b len 0 7) >>= pLs b len (jAll Jo) 8) >>= pLs b len (jAll Jo) 8) >>= pLs b len (jAll Jo) 32) = .ok p' → ∃ a t g l, rN b len 0 7 p = .ok a ∧ pLs b len (jAll Jo) 8 a.2 = .ok t ∧ pLs b len (jAll Jo) 8 t.2 = .ok g ∧ pLs b len (jAll Jo) 32 g.2 = .ok l ∧ l.2 = p' ∧ TyT z11 kp (T0 ++ flG gs ++ t.1 ++ g.1 ++ l.1) ∧ (T0 ++ flG gs ++ t.1 ++ g.1 ++ l.1).length ≤ p' ∧ v6 = t.1.length ∧ v8 = g.1.length ∧ v10 = l.1.length := fun p' y => by
    obtain ⟨l, y1, y2⟩ := cu_ok y
    rw [rr] at y1
    obtain ⟨a, y3, y1⟩ := bq_ok y1
    obtain ⟨t, y4, y1⟩ := bq_ok y1
    obtain ⟨g, y5, y1⟩ := bq_ok y1
    have r1 : (.ok p >>= rN b len 0 7) = Except.ok a := by rw [ok_bq]; exact y3
    rw [r1] at g4 i4 k4
    have r2 : (cu (.ok a : Ex (Nat × Nat)) >>= pLs b len (jAll Jo) 8) = .ok t := y4
    rw [r2] at g4 i4 k4
    have r3 : (cu (.ok t : Ex (List Ty × Nat)) >>= pLs b len (jAll Jo) 8) = .ok g := y5
    rw [r3] at i4 k4
    have r4 : (cu (.ok g : Ex (List Ty × Nat)) >>= pLs b len (jAll Jo) 32) = .ok l := y1
    rw [r4] at k4
    have g4' := g4 t.2 rfl
    have i4' := i4 g.2 rfl
    have k4' := k4 l.2 rfl
    exact ⟨a, t, g, l, y3, y4, y5, y1, y2, k4'.1.fr l3 (by simp) (by simp), by rw [← y2]; exact k4'.2.1, g4'.2.2, i4'.2.2, k4'.2.2⟩
  have pin : ∀ p', cu (cu (cu (cu (.ok p >>= rN b len 0 7) >>= pLs b len (jAll Jo) 8) >>= pLs b len (jAll Jo) 8) >>= pLs b len (jAll Jo) 32) = .ok p' → p < p' := fun p' y => by
    obtain ⟨a, t, g, l, y3, y4, y5, y6, y7, _⟩ := ex p' y
    obtain ⟨_, eq, _⟩ := rN_ok y3
    subst eq
    have x1 := (pLs_le y4).1
    have x2 := (pLs_le y5).1
    have x3 := (pLs_le y6).1
    have x1' : p + 1 + t.1.length < t.2 := x1
    omega
  have x5 : z11.1 60 5 = nI (allC gs).length := by rw [m11.2.2.2.2 5 (by simp)]; exact T5
  have T3' : SrT z11 kp (allC gs) := T3.fr ⟨hk.2, hk.1⟩ m11 (by simp) (by simp)
  have G11 : HG z11 kp Jo := hG.fr ⟨hk.2, hk.1⟩ m11 (by simp) (by simp)
  obtain ⟨z12, o1, o2, o3, o4, o5⟩ := l2.fnT (F := F) hF ej (i := gs.length) hi g2 k2 (S := allC gs) (fun p' y => ⟨G11, T3', by have := pin p' y; omega, x5, T6⟩) (ko := ko)
  have m12 : FrFs kp z z12 := (m11.mono (by simp) (by simp) (by simp)).trans (o5.mono (by simp) (by simp) (by simp))
  have low : ∀ x, x < 9 * gs.length ∨ 9 * gs.length + 9 ≤ x → z12.1 (kp + 4) x = z.1 (kp + 4) x := fun x hx => by
    rw [o4 x (by omega) (by omega), l5 _ (by omega), row10, j5 _ (by omega), row8, h5 _ (by omega), row6, f5 _ (by omega), d5 _ (by omega), row3, b5 _ (by omega), a5 _ (by omega)]
  refine ⟨z12, ?_, ?_, ?_, fun x hx => low x (.inr hx), m12⟩
  · rw [a1, cal_s, n1.1, h.1.2.2.1, lnk_s, h.1.p, grd_true, b1, cal_s, n2.1, h.1.2.2.1, lnk_s, c1, cal_s, h.1.p, grd_true, d1, cal_s, n4.1, h.1.2.2.1, lnk_s, lnk_s, h.1.p, grd_true, grd_true, f1, cal_s, g1, cal_s, m6.1, h.1.2.2.1, lnk_s, h.1.p, grd_true, h1, cal_s, m7.1, h.1.2.2.1, lnk_s, i1, cal_s, h.1.p, grd_true, j1, cal_s, k1, cal_s, m10.1, h.1.2.2.1, lnk_s, h.1.p, grd_true, l1, cal_s]
    exact o1
  · unfold gFn
    cases e : cu (cu (cu (cu (.ok p >>= rN b len 0 7) >>= pLs b len (jAll Jo) 8) >>= pLs b len (jAll Jo) 8) >>= pLs b len (jAll Jo) 32) with
    | error w =>
      rw [e] at o2
      rw [rr] at e
      have o2' : KX sh n z12 kp kb b len J (.error w) := o2
      cases e1 : rN b len 0 7 p with
      | error w' => rw [e1] at e; cases e; exact o2'
      | ok a =>
        rw [e1, ok_bq] at e
        rw [ok_bq]
        cases e2 : pLs b len (jAll Jo) 8 a.2 with
        | error w' => rw [e2] at e; cases e; exact o2'
        | ok t =>
          rw [e2, ok_bq] at e
          rw [ok_bq]
          cases e3 : pLs b len (jAll Jo) 8 t.2 with
          | error w' => rw [e3] at e; cases e; exact o2'
          | ok g =>
            rw [e3, ok_bq] at e
            rw [ok_bq]
            cases e4 : pLs b len (jAll Jo) 32 g.2 with
            | error w' => rw [e4] at e; cases e; exact o2'
            | ok l => rw [e4] at e; cases e
    | ok p' =>
      obtain ⟨a, t, g, l, y3, y4, y5, y6, y7, y8, y9, y10, y11, y12⟩ := ex p' e
      rw [e, ok_bq, y10, y12] at o2
      rw [y3, ok_bq, y4, ok_bq, y5, ok_bq, y6, ok_bq, y7]
      cases e5 : sk len 2 p' with
      | error w => rw [e5] at o2; exact o2
      | ok s =>
        rw [e5, ok_bq] at o2
        rw [ok_bq]
        by_cases bad : shB b p' < 1 ∨ 1024 < shB b p' ∨ 8192 < (allC gs).length + shB b p'
        · rw [if_pos bad] at o2 ⊢; exact o2
        · rw [if_neg bad] at o2 ⊢
          cases e6 : gIs b len Jo (t.1.length + l.1.length) (shB b p') (shB b p') s.2 with
          | error w => rw [e6] at o2; exact o2
          | ok c => rw [e6] at o2; exact o2
  · intro c y
    unfold gFn at y
    obtain ⟨a, y3, y⟩ := bq_ok y
    obtain ⟨t, y4, y⟩ := bq_ok y
    obtain ⟨g, y5, y⟩ := bq_ok y
    obtain ⟨l, y6, y⟩ := bq_ok y
    obtain ⟨s, y7, y⟩ := bq_ok y
    by_cases bad : shB b l.2 < 1 ∨ 1024 < shB b l.2 ∨ 8192 < (allC gs).length + shB b l.2
    · rw [if_pos bad] at y; cases y
    rw [if_neg bad] at y
    obtain ⟨x, y8, y⟩ := bq_ok y
    cases y
    have r10 : cu (cu (cu (cu (.ok p >>= rN b len 0 7) >>= pLs b len (jAll Jo) 8) >>= pLs b len (jAll Jo) 8) >>= pLs b len (jAll Jo) 32) = .ok l.2 := by
      rw [rr, y3, ok_bq, y4, ok_bq, y5, ok_bq, y6]; rfl
    obtain ⟨a', t', g', l', w3, w4, w5, w6, w7, w8, w9, w10, w11, w12⟩ := ex l.2 r10
    rw [y3] at w3
    cases w3
    rw [y4] at w4
    cases w4
    rw [y5] at w5
    cases w5
    rw [y6] at w6
    cases w6
    have q := o3 x (by rw [r10, ok_bq, y7, ok_bq, if_neg bad, w10, w12]; exact y8)
    obtain ⟨q1, q2, q3, q4, q5, q6⟩ := q
    have ty : T0 ++ flG (gs ++ [(p, a.1, t.1, g.1, l.1, x.1)]) = T0 ++ flG gs ++ t.1 ++ g.1 ++ l.1 := by
      rw [flG_a]
      show T0 ++ (flG gs ++ (t.1 ++ (g.1 ++ l.1))) = _
      simp only [List.append_assoc]
    have al : allC (gs ++ [(p, a.1, t.1, g.1, l.1, x.1)]) = allC gs ++ x.1 := allC_a gs _
    have lx : l.2 ≤ x.2 := by
      have := gIs_le _ y8
      have sl := (sk_ok y7).2
      omega
    unfold FnT
    rw [ty, al]
    have t12 : TyT z12 kp (T0 ++ flG gs ++ t.1 ++ g.1 ++ l.1) := w8.fr o5 (by simp) (by simp)
    refine ⟨t12, by show _ ≤ x.2; omega, q1, q2, q3, q4, RoG.snoc (T7.fr (fun x hx => low x (.inl hx))) ?_⟩
    obtain ⟨_, ea, _⟩ := rN_ok y3
    subst ea
    refine ⟨?_, ?_, ?_, ?_, ?_, ?_, ?_, ?_, ?_⟩
    · rw [o4 _ (by omega) (by omega), l5 _ (by omega), row10, j5 _ (by omega), row8, h5 _ (by omega), row6, f5 _ (by omega), d4, ok_bq, y3]; rfl
    · rw [o4 _ (by omega) (by omega), l5 _ (by omega), row10, j5 _ (by omega), row8, h5 _ (by omega), row6, f4, n4.2.2.2.1 4 (by simp), ← List.length_append]
      exact T1.1
    · rw [o4 _ (by omega) (by omega), l5 _ (by omega), row10, j5 _ (by omega), row8, h4, w10]
    · rw [o4 _ (by omega) (by omega), l5 _ (by omega), row10, j4, w11]
    · rw [o4 _ (by omega) (by omega), l4, w12]
    · rw [q5]
    · rw [q6]
    · rw [o4 _ (by omega) (by omega), l5 _ (by omega), row10, j5 _ (by omega), row8, h5 _ (by omega), row6, f5 _ (by omega), d5 _ (by omega), row3, b5 _ (by omega), a4]
      exact e2
    · rw [o4 _ (by omega) (by omega), l5 _ (by omega), row10, j5 _ (by omega), row8, h5 _ (by omega), row6, f5 _ (by omega), d5 _ (by omega), row3, b4]
theorem KX.fns (hF : 1100 ≤ F) (ej : Jo.isSome = J) {own nm : Nat} (ho : own ≤ 64) {T0 : List Ty} : ∀ m g z r gs, gs.length + m = own → m < g → KX sh n z kp kb b len J r → (∀ p, r = .ok p → FnT z kp nm T0 gs p ∧ HG z kp Jo ∧ z.1 kp 2 = nI nm) → ∃ z', fn_X6_readFunctions_L18 F sh n (nI own) 60 g z (nI gs.length) = some (z', ()) ∧ KX sh n z' kp kb b len J (cu (r >>= gFns b len Jo m gs)) ∧ (∀ q, (r >>= gFns b len Jo m gs) = .ok q → FnT z' kp nm T0 q.1 q.2) ∧ (∀ x, 9 * 64 ≤ x → z'.1 (kp + 4) x = z.1 (kp + 4) x) ∧ FrFs kp z z' := by
  intro m
  induction m with
  | zero =>
    intro g z r gs ei hg h hT
    obtain ⟨g, rfl⟩ : ∃ q, g = q + 1 := ⟨g - 1, by omega⟩
    unfold fn_X6_readFunctions_L18
    rw [if_pos ((nI_leI (by omega) (by omega)).mpr (by omega))]
    refine ⟨z, rfl, ?_, ?_, fun _ _ => rfl, FrKd.rfl'⟩
    · cases r with
      | error e => exact h
      | ok p => exact h
    · intro q e
      cases r with
      | error e' => cases e
      | ok p =>
        rw [ok_bq] at e
        cases e
        exact (hT p rfl).1
  | succ m ih =>
    intro g z r gs ei hg h hT
    obtain ⟨g, rfl⟩ : ∃ q, g = q + 1 := ⟨g - 1, by omega⟩
    unfold fn_X6_readFunctions_L18
    rw [if_neg (fun y => by have := (nI_leI (by omega) (by omega)).mp y; omega)]
    cases r with
    | error e =>
      rw [if_neg h.ne0]
      exact ⟨z, rfl, h, fun q y => (by cases y), fun _ _ => rfl, FrKd.rfl'⟩
    | ok p =>
      have hk := isP_ne h.1.2.1
      obtain ⟨T1, hG, e2⟩ := hT p rfl
      obtain ⟨z1, s1, s2, s3, s4, s5⟩ := h.fn1 (F := F) hF ej hG T1 e2 (by omega) (ko := fun z9 q2 => fn_X6_readFunctions_L18 F sh n (nI own) 60 g z9 q2)
      rw [if_pos h.is0, h.1.2.2.1, lnk_s, lnk_s, h.1.p, grd_true, grd_true, s1, nI_1, ok_bq]
      cases e : gFn b len Jo (allC gs).length p with
      | error w =>
        rw [e] at s2
        have s2' : KX sh n z1 kp kb b len J (.error w) := s2
        obtain ⟨z2, t1, t2, t3, t4, t5⟩ := ih g z1 (.error w) (gs ++ [dGP]) (by rw [List.length_append]; show gs.length + 1 + m = own; omega) (by omega) s2' (fun p' y => by cases y)
        rw [List.length_append] at t1
        have t1' : fn_X6_readFunctions_L18 F sh n (nI own) 60 g z1 (nI (gs.length + 1)) = some (z2, ()) := t1
        refine ⟨z2, t1', ?_, ?_, fun x hx => (t4 x hx).trans (s4 x (by omega)), s5.trans t5⟩
        · unfold gFns; rw [e]; exact t2
        · intro q y; unfold gFns at y; rw [e] at y; cases y
      | ok c =>
        rw [e] at s2
        have s2' : KX sh n z1 kp kb b len J (.ok c.2) := s2
        obtain ⟨z2, t1, t2, t3, t4, t5⟩ := ih g z1 (.ok c.2) (gs ++ [c.1]) (by rw [List.length_append]; show gs.length + 1 + m = own; omega) (by omega) s2' (fun p' y => by cases y; exact ⟨s3 c e, hG.fr ⟨hk.2, hk.1⟩ s5 (by simp) (by simp), by rw [s5.2.2.2.1 2 (by simp)]; exact e2⟩)
        rw [List.length_append] at t1
        have t1' : fn_X6_readFunctions_L18 F sh n (nI own) 60 g z1 (nI (gs.length + 1)) = some (z2, ()) := t1
        refine ⟨z2, t1', ?_, ?_, fun x hx => (t4 x hx).trans (s4 x (by omega)), s5.trans t5⟩
        · unfold gFns; rw [e]; exact t2
        · intro q y; unfold gFns at y; rw [e] at y; exact t3 q y
end
