/-! THE CLASS'S READER: structures -/
def flS (ss : List SP) : List Ty := (ss.map (fun s => s.2.2)).flatten
def SRo (z : St) (kp nm i off : Nat) (s : SP) : Prop := z.1 (kp + 3) (7 * i + 0) = nI s.2.1 ∧ z.1 (kp + 3) (7 * i + 1) = nI s.1 ∧ z.1 (kp + 3) (7 * i + 2) = nI off ∧ z.1 (kp + 3) (7 * i + 3) = nI s.2.2.length ∧ z.1 (kp + 3) (7 * i + 4) = nI nm ∧ z.1 (kp + 3) (7 * i + 5) = nI i
def RoS (z : St) (kp nm i off : Nat) (ss : List SP) : Prop := ∀ k, k < ss.length → SRo z kp nm (i + k) (off + (flS (ss.take k)).length) (ss.getD k dSP)
def FoR (z : St) (kp : Nat) (b : Nat → Nat) (i p : Nat) : Prop := z.1 (kp + 3) (7 * i + 0) = nI (b (p + 3)) ∧ z.1 (kp + 3) (7 * i + 3) = nI 0 ∧ z.1 (kp + 3) (7 * i + 4) = nI (shB b p) ∧ z.1 (kp + 3) (7 * i + 5) = nI (b (p + 2))
def RoF (z : St) (kp : Nat) (b : Nat → Nat) (i : Nat) (ps : List Nat) : Prop := ∀ k, k < ps.length → FoR z kp b (i + k) (ps.getD k 0)
section
variable {F n : Nat} {sh : Nat → Nat × Nat} {z z' : St} {kp kb len : Nat} {b : Nat → Nat} {J : Bool} {r : Ex Nat} {ks js hs : List Nat} {Jo : Option JI}
theorem KX.setS (h : KX sh n z kp kb b len J r) {i c : Nat} {ic : Int32} (ec : ic = nI c) (hi : i < 64) (hc : c < 7) (v : Int32) : ∃ z', fn_X5_setStructure F sh n z kp (nI i) ic v = some (z', ()) ∧ KX sh n z' kp kb b len J r ∧ FrKd kp [kp + 3] [] [] z z' ∧ z'.1 (kp + 3) (7 * i + c) = v ∧ ∀ x, x ≠ 7 * i + c → z'.1 (kp + 3) x = z.1 (kp + 3) x := by
  subst ec
  obtain ⟨a0, a1, a2, a3, a4, a5, a6, a7, a8⟩ := b_prog h.1.1 h.1.2.1
  have pn := isP_ne h.1.2.1
  unfold fn_X5_setStructure
  have ei : nI i * 7 + nI c = nI (7 * i + c) := by rw [show (7 : Int32) = nI 7 from rfl, pk_mul, nI_add, Nat.mul_comm]
  rw [if_neg (fun y => by have := (nIlt (x := 0) 0 rfl (by omega) (by omega)).mp y; omega), if_neg (fun y => by have := (nIge (x := 64) 64 rfl (by omega) (by omega)).mp y; omega), a0, grd_true, a3, lnk_s, ei, a7, okI_nI (by omega) (by omega), grd_true, lt_t, nI_clamp (by omega)]
  have f : FrKd kp [kp + 3] [] [] z (si z (kp + 3) (7 * i + c) v) := FrKd.siK (by omega) (by omega) (by simp)
  exact ⟨_, rfl, h.fr f (by simp; omega) (by simp) (by simp), f, si_ss, fun x hx => si_oj hx⟩
theorem KX.setF (h : KX sh n z kp kb b len J r) {i c : Nat} {ic : Int32} (ec : ic = nI c) (hi : i < 96) (hc : c < 9) (v : Int32) : ∃ z', fn_X5_setFunction F sh n z kp (nI i) ic v = some (z', ()) ∧ KX sh n z' kp kb b len J r ∧ FrKd kp [kp + 4] [] [] z z' ∧ z'.1 (kp + 4) (9 * i + c) = v ∧ ∀ x, x ≠ 9 * i + c → z'.1 (kp + 4) x = z.1 (kp + 4) x := by
  subst ec
  obtain ⟨a0, a1, a2, a3, a4, a5, a6, a7, a8⟩ := b_prog h.1.1 h.1.2.1
  have pn := isP_ne h.1.2.1
  unfold fn_X5_setFunction
  have ei : nI i * 9 + nI c = nI (9 * i + c) := by rw [show (9 : Int32) = nI 9 from rfl, pk_mul, nI_add, Nat.mul_comm]
  rw [if_neg (fun y => by have := (nIlt (x := 0) 0 rfl (by omega) (by omega)).mp y; omega), if_neg (fun y => by have := (nIge (x := 96) 96 rfl (by omega) (by omega)).mp y; omega), a0, grd_true, a4, lnk_s, ei, a8, okI_nI (by omega) (by omega), grd_true, lt_t, nI_clamp (by omega)]
  have f : FrKd kp [kp + 4] [] [] z (si z (kp + 4) (9 * i + c) v) := FrKd.siK (by omega) (by omega) (by simp)
  exact ⟨_, rfl, h.fr f (by simp; omega) (by simp) (by simp), f, si_ss, fun x hx => si_oj hx⟩
theorem TyT.fr {T : List Ty} (t : TyT z kp T) (f : FrKd kp ks js hs z z') (h1 : kp + 1 ∉ ks) (h2 : 4 ∉ js) : TyT z' kp T := by
  unfold TyT
  rw [f.2.2.2.1 4 h2, f.2.2.1 (kp + 1) h1]
  exact t
theorem rN_ok {lo hi p : Nat} {q : Nat × Nat} (h : rN b len lo hi p = .ok q) : p < len ∧ q = (b p, p + 1) ∧ lo ≤ b p ∧ b p ≤ hi := by
  unfold rN at h
  obtain ⟨c, g1, g2⟩ := bq_ok h
  obtain ⟨hp, ea⟩ := rBy_ok g1
  subst ea
  by_cases cc : (b p, p + 1).1 < lo ∨ hi < (b p, p + 1).1
  · rw [if_pos cc] at g2; cases g2
  · rw [if_neg cc] at g2
    cases g2
    have cc' : ¬ (b p < lo ∨ hi < b p) := cc
    exact ⟨hp, rfl, by omega, by omega⟩
theorem vN_rN {lo hi : Nat} (hi' : hi < 256) : vN (r >>= rN b len lo hi) ≤ hi := by
  cases r with
  | error e => exact Nat.zero_le _
  | ok p =>
    rw [ok_bq]
    cases e : rN b len lo hi p with
    | error w => exact Nat.zero_le _
    | ok q =>
      obtain ⟨_, e2, _, h2⟩ := rN_ok e
      subst e2; exact h2
theorem flS_c (s : SP) (ss : List SP) : flS (s :: ss) = s.2.2 ++ flS ss := rfl
theorem RoS.cons {nm i off : Nat} {s : SP} {ss : List SP} (h1 : SRo z kp nm i off s) (h2 : RoS z kp nm (i + 1) (off + s.2.2.length) ss) : RoS z kp nm i off (s :: ss) := by
  intro k hk
  cases k with
  | zero => exact h1
  | succ k =>
    have := h2 k (by simpa using hk)
    rw [List.take_succ_cons, flS_c, List.length_append, ← Nat.add_assoc off, show i + (k + 1) = i + 1 + k by omega]
    exact this
theorem SRo.fr {nm i off : Nat} {s : SP} (h : SRo z kp nm i off s) (f : ∀ x, x < 7 * i + 7 → z'.1 (kp + 3) x = z.1 (kp + 3) x) : SRo z' kp nm i off s := by
  unfold SRo
  rw [f _ (by omega), f _ (by omega), f _ (by omega), f _ (by omega), f _ (by omega), f _ (by omega)]
  exact h
theorem KX.struct1 (hF : 300 ≤ F) {p : Nat} (h : KX sh n z kp kb b len J (.ok p)) (ej : Jo.isSome = J) (hj : ∀ m, jAll Jo = some m → z.1 kp 9 = nI m ∧ m < 256) {T : List Ty} {nm i : Nat} (T0 : TyT z kp T) (tl : T.length ≤ p) (e2 : z.1 kp 2 = nI nm) (hi : i < 32) {K : St → Option (St × Unit)} : ∃ z', cal (fn_X5_setStructure F sh n z kp (nI i) 1 (z.1 60 3)) (fun z_18 _ => lnk (z_18.2.2 60 2) (fun k_21 => cal (fn_X6_readNumber F sh n z_18 60 0 15) (fun z_22 r_23 => grd (okO sh n k_21 5) (cal (fn_X5_setStructure F sh n z_22 k_21 (nI i) 0 r_23) (fun z_25 _ => cal (fn_X6_readNumber F sh n z_25 60 1 16) (fun z_28 r_29 => lnk (z_28.2.2 60 2) (fun k_31 => lnk (z_28.2.2 60 2) (fun k_32 => grd (okO sh n k_32 5) (grd (okO sh n k_31 5) (cal (fn_X5_setStructure F sh n z_28 k_31 (nI i) 2 (z_28.1 k_32 4)) (fun z_34 _ => lnk (z_34.2.2 60 2) (fun k_37 => grd (okO sh n k_37 5) (cal (fn_X5_setStructure F sh n z_34 k_37 (nI i) 3 r_29) (fun z_38 _ => lnk (z_38.2.2 60 2) (fun k_41 => lnk (z_38.2.2 60 2) (fun k_42 => grd (okO sh n k_42 5) (grd (okO sh n k_41 5) (cal (fn_X5_setStructure F sh n z_38 k_41 (nI i) 4 (z_38.1 k_42 2)) (fun z_44 _ => lnk (z_44.2.2 60 2) (fun k_47 => grd (okO sh n k_47 5) (cal (fn_X5_setStructure F sh n z_44 k_47 (nI i) 5 (nI i)) (fun z_48 _ => cal (fn_X6_readTypes F sh n z_48 60 r_29 0) (fun z_51 _ => K z_51))))))))))))))))))))))) = K z' ∧ KX sh n z' kp kb b len J (cu (gSt b len Jo p)) ∧ (∀ c, gSt b len Jo p = .ok c → TyT z' kp (T ++ c.1.2.2) ∧ (T ++ c.1.2.2).length ≤ c.2 ∧ SRo z' kp nm i T.length c.1) ∧ (∀ x, x < 7 * i → z'.1 (kp + 3) x = z.1 (kp + 3) x) ∧ FrKd kp [kp + 1, kp + 3] [4] [0, 1, 3] z z' := by
  obtain ⟨z1, a1, a2, a3, a4, a5⟩ := h.setS (F := F) (i := i) (c := 1) (ic := 1) rfl (by omega) (by omega) (z.1 60 3)
  obtain ⟨z2, b1, b2, b3⟩ := a2.number (F := F) (lo := 0) (hi := 15) (il := 0) (ih := 15) rfl rfl (by omega) (by omega)
  obtain ⟨z3, c1, c2, c3, c4, c5⟩ := b2.setS (F := F) (i := i) (c := 0) (ic := 0) rfl (by omega) (by omega) (nI (vN (.ok p >>= rN b len 0 15)))
  obtain ⟨z4, d1, d2, d3⟩ := c2.number (F := F) (lo := 1) (hi := 16) (il := 1) (ih := 16) rfl rfl (by omega) (by omega)
  obtain ⟨z5, f1, f2, f3, f4, f5⟩ := d2.setS (F := F) (i := i) (c := 2) (ic := 2) rfl (by omega) (by omega) (z4.1 kp 4)
  obtain ⟨z6, g1, g2, g3, g4, g5⟩ := f2.setS (F := F) (i := i) (c := 3) (ic := 3) rfl (by omega) (by omega) (nI (vN (cu (.ok p >>= rN b len 0 15) >>= rN b len 1 16)))
  obtain ⟨z7, h1, h2, h3, h4, h5⟩ := g2.setS (F := F) (i := i) (c := 4) (ic := 4) rfl (by omega) (by omega) (z6.1 kp 2)
  obtain ⟨z8, i1, i2, i3, i4, i5⟩ := h2.setS (F := F) (i := i) (c := 5) (ic := 5) rfl (by omega) (by omega) (nI i)
  have hk := isP_ne h.1.2.1
  have v16 : vN (cu (.ok p >>= rN b len 0 15) >>= rN b len 1 16) ≤ 16 := vN_rN (by omega)
  have m1 : FrKd kp [kp + 3] [] [0, 1, 3] z z1 := a3.mono (by simp) (by simp) (by simp)
  have m2 : FrKd kp [kp + 3] [] [0, 1, 3] z z2 := m1.trans (b3.g (by simp))
  have m3 : FrKd kp [kp + 3] [] [0, 1, 3] z z3 := m2.trans (c3.mono (by simp) (by simp) (by simp))
  have m4 : FrKd kp [kp + 3] [] [0, 1, 3] z z4 := m3.trans (d3.g (by simp))
  have m5 : FrKd kp [kp + 3] [] [0, 1, 3] z z5 := m4.trans (f3.mono (by simp) (by simp) (by simp))
  have m6 : FrKd kp [kp + 3] [] [0, 1, 3] z z6 := m5.trans (g3.mono (by simp) (by simp) (by simp))
  have m7 : FrKd kp [kp + 3] [] [0, 1, 3] z z7 := m6.trans (h3.mono (by simp) (by simp) (by simp))
  have m8 : FrKd kp [kp + 3] [] [0, 1, 3] z z8 := m7.trans (i3.mono (by simp) (by simp) (by simp))
  have ejn : (jAll Jo).isSome = J := by rw [← ej]; cases Jo <;> rfl
  have T8 : TyT z8 kp T := T0.fr m8 (by simp) (by simp)
  have rr : cu (cu (.ok p >>= rN b len 0 15) >>= rN b len 1 16) = cu (rN b len 0 15 p >>= fun a => rN b len 1 16 a.2) := by
    rw [ok_bq]; cases rN b len 0 15 p <;> rfl
  have r8 : ∀ p', cu (cu (.ok p >>= rN b len 0 15) >>= rN b len 1 16) = .ok p' → p' = p + 2 := fun p' y => by
    rw [rr] at y
    cases e : rN b len 0 15 p with
    | error w => rw [e] at y; cases y
    | ok a =>
      obtain ⟨_, ea, _⟩ := rN_ok e
      subst ea
      rw [e, ok_bq] at y
      cases e' : rN b len 1 16 (p + 1) with
      | error w =>
        have y' : cu (rN b len 1 16 (p + 1)) = .ok p' := y
        rw [e'] at y'; cases y'
      | ok a =>
        obtain ⟨_, ea, _⟩ := rN_ok e'
        subst ea
        have y' : cu (rN b len 1 16 (p + 1)) = .ok p' := y
        rw [e'] at y'
        cases y'; rfl
  obtain ⟨z9, j1, j2, j3, j4⟩ := KX.types (F := F) (jo := jAll Jo) hF ejn (cnt := vN (cu (.ok p >>= rN b len 0 15) >>= rN b len 1 16)) (by omega) (rf := false) _ 0 F z8 (cu (cu (.ok p >>= rN b len 0 15) >>= rN b len 1 16)) T (Nat.zero_add _) (by omega) i2 (fun m y => by rw [m8.2.2.2.1 9 (by simp)]; exact hj m y) (fun p' y => ⟨T8, by rw [r8 p' y]; omega⟩)
  have m9 : FrKd kp [kp + 1, kp + 3] [4] [0, 1, 3] z z9 := (m8.mono (by simp) (by simp) (by simp)).trans (j4.mono (by simp) (by simp) (by simp))
  have row : ∀ x, z9.1 (kp + 3) x = z8.1 (kp + 3) x := fun x => by rw [j4.2.1 (kp + 3) (by omega) (by omega) (by simp)]
  have row4 : ∀ x, z4.1 (kp + 3) x = z3.1 (kp + 3) x := fun x => by rw [d3.2.1 (kp + 3) (by omega) (by omega) (by simp)]
  have row2 : ∀ x, z2.1 (kp + 3) x = z1.1 (kp + 3) x := fun x => by rw [b3.2.1 (kp + 3) (by omega) (by omega) (by simp)]
  have eqn : (cu (cu (.ok p >>= rN b len 0 15) >>= rN b len 1 16) >>= pTs b len (jAll Jo) false (vN (cu (.ok p >>= rN b len 0 15) >>= rN b len 1 16))) = (rN b len 0 15 p >>= fun a => rN b len 1 16 a.2 >>= fun c => pTs b len (jAll Jo) false c.1 c.2) := by
    rw [ok_bq]
    cases rN b len 0 15 p with
    | error w => rfl
    | ok a =>
      show (cu (rN b len 1 16 a.2) >>= pTs b len (jAll Jo) false (vN (rN b len 1 16 a.2))) = (rN b len 1 16 a.2 >>= fun c => pTs b len (jAll Jo) false c.1 c.2)
      cases rN b len 1 16 a.2 <;> rfl
  rw [eqn] at j2 j3
  refine ⟨z9, ?_, ?_, ?_, ?_, m9⟩
  · unfold fn_X6_readTypes at *
    rw [a1, cal_s, m1.1, h.1.2.2.1, lnk_s, b1, cal_s, h.1.p, grd_true, c1, cal_s, d1, cal_s, m4.1, h.1.2.2.1, lnk_s, lnk_s, h.1.p, grd_true, grd_true, f1, cal_s, m5.1, h.1.2.2.1, lnk_s, h.1.p, grd_true, g1, cal_s, m6.1, h.1.2.2.1, lnk_s, lnk_s, h.1.p, grd_true, grd_true, h1, cal_s, m7.1, h.1.2.2.1, lnk_s, h.1.p, grd_true, i1, cal_s]
    have j1' : fn_X6_readTypes_L2 F sh n (nI (vN (cu (.ok p >>= rN b len 0 15) >>= rN b len 1 16))) 60 0 F z8 0 = some (z9, ()) := j1
    rw [j1', cal_s]
  · unfold gSt
    cases e : rN b len 0 15 p with
    | error w => rw [e] at j2; exact j2
    | ok a =>
      rw [e, ok_bq] at j2
      rw [ok_bq]
      cases e' : rN b len 1 16 a.2 with
      | error w => rw [e'] at j2; exact j2
      | ok c =>
        rw [e', ok_bq] at j2
        rw [ok_bq]
        cases e'' : pTs b len (jAll Jo) false c.1 c.2 with
        | error w => rw [e''] at j2; exact j2
        | ok t => rw [e''] at j2; exact j2
  · intro c y
    unfold gSt at y
    obtain ⟨a, y1, y⟩ := bq_ok y
    obtain ⟨d, y2, y⟩ := bq_ok y
    obtain ⟨t, y3, y⟩ := bq_ok y
    cases y
    have := j3 t (by rw [y1, ok_bq, y2, ok_bq]; exact y3)
    refine ⟨this.1, this.2, ?_⟩
    obtain ⟨_, ea, _⟩ := rN_ok y1
    subst ea
    obtain ⟨_, ed, _⟩ := rN_ok y2
    subst ed
    have vt : vN (cu (.ok p >>= rN b len 0 15) >>= rN b len 1 16) = b (p + 1) := by
      rw [ok_bq, y1]
      show vN (rN b len 1 16 (p + 1)) = _
      have y2' : rN b len 1 16 (p + 1) = .ok (b (p + 1), p + 1 + 1) := y2
      rw [y2']; rfl
    have tlen : t.1.length = b (p + 1) := (pTs_le _ y3).2
    refine ⟨?_, ?_, ?_, ?_, ?_, ?_⟩
    · rw [row, i5 _ (by omega), h5 _ (by omega), g5 _ (by omega), f5 _ (by omega), row4, c4, ok_bq, y1]; rfl
    · rw [row, i5 _ (by omega), h5 _ (by omega), g5 _ (by omega), f5 _ (by omega), row4, c5 _ (by omega), row2, a4]
      exact h.2.1
    · rw [row, i5 _ (by omega), h5 _ (by omega), g5 _ (by omega), f4, m4.2.2.2.1 4 (by simp)]
      exact T0.1
    · rw [row, i5 _ (by omega), h5 _ (by omega), g4, vt]
      show nI (b (p + 1)) = nI t.1.length
      rw [tlen]
    · rw [row, i5 _ (by omega), h4, m6.2.2.2.1 2 (by simp)]
      exact e2
    · rw [row, i4]
  · intro x hx
    rw [row, i5 _ (by omega), h5 _ (by omega), g5 _ (by omega), f5 _ (by omega), row4, c5 _ (by omega), row2, a5 _ (by omega)]
theorem KX.structs (hF : 300 ≤ F) (ej : Jo.isSome = J) {own nm : Nat} (ho : own ≤ 32) : ∀ m i g z r T, i + m = own → m < g → KX sh n z kp kb b len J r → (∀ m, jAll Jo = some m → z.1 kp 9 = nI m ∧ m < 256) → z.1 kp 8 = nI own → (∀ p, r = .ok p → TyT z kp T ∧ T.length ≤ p ∧ z.1 kp 2 = nI nm) → ∃ z', fn_X6_readStructures_L37 F sh n 60 g z (nI i) = some (z', ()) ∧ KX sh n z' kp kb b len J (cu (r >>= gSts b len Jo m)) ∧ (∀ q, (r >>= gSts b len Jo m) = .ok q → TyT z' kp (T ++ flS q.1) ∧ (T ++ flS q.1).length ≤ q.2 ∧ RoS z' kp nm i T.length q.1) ∧ (∀ x, x < 7 * i → z'.1 (kp + 3) x = z.1 (kp + 3) x) ∧ FrKd kp [kp + 1, kp + 3] [4] [0, 1, 3] z z' := by
  intro m
  induction m with
  | zero =>
    intro i g z r T ei hg h hj e8 hT
    obtain ⟨g, rfl⟩ : ∃ q, g = q + 1 := ⟨g - 1, by omega⟩
    unfold fn_X6_readStructures_L37
    rw [h.1.2.2.1, lnk_s, h.1.p, grd_true, e8, if_pos ((nI_leI (by omega) (by omega)).mpr (by omega))]
    refine ⟨z, rfl, ?_, ?_, fun _ _ => rfl, FrKd.rfl'⟩
    · cases r with
      | error e => exact h
      | ok p => exact h
    · intro q e
      cases r with
      | error e' => cases e
      | ok p =>
        rw [ok_bq] at e
        cases e
        have := hT p rfl
        refine ⟨?_, ?_, fun k hk => absurd hk (by simp)⟩
        · rw [show flS [] = [] from rfl, List.append_nil]; exact this.1
        · rw [show flS [] = [] from rfl, List.append_nil]; exact this.2.1
  | succ m ih =>
    intro i g z r T ei hg h hj e8 hT
    obtain ⟨g, rfl⟩ : ∃ q, g = q + 1 := ⟨g - 1, by omega⟩
    unfold fn_X6_readStructures_L37
    rw [h.1.2.2.1, lnk_s, h.1.p, grd_true, e8, if_neg (fun y => by have := (nI_leI (by omega) (by omega)).mp y; omega)]
    cases r with
    | error e =>
      rw [if_neg h.ne0]
      exact ⟨z, rfl, h, fun q y => (by cases y), fun _ _ => rfl, FrKd.rfl'⟩
    | ok p =>
      obtain ⟨T0, tl, e2⟩ := hT p rfl
      obtain ⟨z1, s1, s2, s3, s4, s5⟩ := h.struct1 (F := F) hF ej hj T0 tl e2 (i := i) (by omega) (K := fun z => fn_X6_readStructures_L37 F sh n 60 g z (nI i + 1))
      rw [if_pos h.is0, lnk_s, h.1.p, grd_true, s1, nI_1, ok_bq]
      obtain ⟨z2, t1, t2, t3, t4, t5⟩ := ih (i + 1) g z1 (cu (gSt b len Jo p)) (T ++ (match gSt b len Jo p with | .ok c => c.1.2.2 | .error _ => [])) (by omega) (by omega) s2 (fun m y => by rw [s5.2.2.2.1 9 (by simp)]; exact hj m y) (by rw [s5.2.2.2.1 8 (by simp)]; exact e8) (fun p' y => by
        cases e : gSt b len Jo p with
        | error w => rw [e] at y; cases y
        | ok c =>
          rw [e] at y
          cases y
          have := s3 c e
          exact ⟨this.1, this.2.1, by rw [s5.2.2.2.1 2 (by simp)]; exact e2⟩)
      refine ⟨z2, t1, ?_, ?_, fun x hx => (t4 x (by omega)).trans (s4 x hx), s5.trans t5⟩
      · unfold gSts
        cases e : gSt b len Jo p with
        | error w => rw [e] at t2; exact t2
        | ok c =>
          rw [e] at t2
          rw [ok_bq]
          have t2' : KX sh n z2 kp kb b len J (cu (gSts b len Jo m c.2)) := t2
          cases e' : gSts b len Jo m c.2 with
          | error w => rw [e'] at t2'; exact t2'
          | ok d => rw [e'] at t2'; exact t2'
      · intro q y
        unfold gSts at y
        obtain ⟨c, y1, y⟩ := bq_ok y
        obtain ⟨d, y2, y⟩ := bq_ok y
        cases y
        rw [y1] at t3
        have := t3 d y2
        have s3' := s3 c y1
        have this' : TyT z2 kp (T ++ c.1.2.2 ++ flS d.1) ∧ (T ++ c.1.2.2 ++ flS d.1).length ≤ d.2 ∧ RoS z2 kp nm (i + 1) (T ++ c.1.2.2).length d.1 := this
        rw [List.append_assoc] at this'
        refine ⟨this'.1, this'.2.1, RoS.cons (s3'.2.2.fr (fun x hx => t4 x (by omega))) ?_⟩
        have t6 := this'.2.2
        rw [List.length_append] at t6
        exact t6
end
