/-! THE CLASS'S READER: foreign structures -/
section
variable {F n : Nat} {sh : Nat → Nat × Nat} {z z' : St} {kp kb len : Nat} {b : Nat → Nat} {J : Bool} {r : Ex Nat} {ks js hs : List Nat} {Jo : Option JI}
theorem RoF.cons {i p : Nat} {ps : List Nat} (h1 : FoR z kp b i p) (h2 : RoF z kp b (i + 1) ps) : RoF z kp b i (p :: ps) := by
  intro k hk
  cases k with
  | zero => exact h1
  | succ k =>
    have := h2 k (by simpa using hk)
    rw [show i + (k + 1) = i + 1 + k by omega]
    exact this
theorem FoR.fr {i p : Nat} (h : FoR z kp b i p) (f : ∀ x, x < 7 * i + 7 → z'.1 (kp + 3) x = z.1 (kp + 3) x) : FoR z' kp b i p := by
  unfold FoR
  rw [f _ (by omega), f _ (by omega), f _ (by omega), f _ (by omega)]
  exact h
theorem sk3 {α : Type} (p : Nat) (f : Nat → Ex α) : (sk len 2 p >>= fun s => rBy b len s.2 >>= fun a => f a.2) = (sk len 3 p >>= fun s => f s.2) := by
  unfold sk rBy
  by_cases c : p + 2 ≤ len
  · rw [if_pos c, ok_bq]
    by_cases d : p + 3 ≤ len
    · rw [if_pos (show (((), p + 2) : Unit × Nat).2 < len from (by show p + 2 < len; omega)), if_pos d]; rfl
    · rw [if_neg (show ¬ (((), p + 2) : Unit × Nat).2 < len from (by show ¬ p + 2 < len; omega)), if_neg d]; rfl
  · rw [if_neg c, if_neg (show ¬ p + 3 ≤ len by omega)]; rfl
theorem KX.fore1 {p : Nat} (h : KX sh n z kp kb b len J (.ok p)) {i : Nat} (hi : i < 64) {K : St → Option (St × Unit)} : ∃ z', cal (fn_X6_readShort F sh n z 60) (fun z_22 r_23 => grd (okO sh n kp 5) (cal (fn_X5_setStructure F sh n z_22 kp (nI i) 4 r_23) (fun z_25 _ => lnk (z_25.2.2 60 2) (fun k_28 => cal (fn_X6_readByte F sh n z_25 60) (fun z_29 r_30 => grd (okO sh n k_28 5) (cal (fn_X5_setStructure F sh n z_29 k_28 (nI i) 5 r_30) (fun z_32 _ => lnk (z_32.2.2 60 2) (fun k_35 => cal (fn_X6_readNumber F sh n z_32 60 0 15) (fun z_36 r_37 => grd (okO sh n k_35 5) (cal (fn_X5_setStructure F sh n z_36 k_35 (nI i) 0 r_37) (fun z_39 _ => lnk (z_39.2.2 60 2) (fun k_42 => grd (okO sh n k_42 5) (cal (fn_X5_setStructure F sh n z_39 k_42 (nI i) 3 0) (fun z_43 _ => K z_43)))))))))))))) = K z' ∧ KX sh n z' kp kb b len J (cu (pFo b len p)) ∧ (∀ c, pFo b len p = .ok c → FoR z' kp b i p) ∧ (∀ x, x < 7 * i → z'.1 (kp + 3) x = z.1 (kp + 3) x) ∧ FrKd kp [kp + 3] [] [0, 1, 3] z z' := by
  have hk := isP_ne h.1.2.1
  obtain ⟨z1, v1, a1, a2, a3, a4, a5⟩ := h.short (F := F)
  obtain ⟨z2, b1, b2, b3, b4, b5⟩ := a4.setS (F := F) (i := i) (c := 4) (ic := 4) rfl (by omega) (by omega) (nI v1)
  obtain ⟨z3, c1, c2, c3⟩ := b2.byte (F := F)
  obtain ⟨z4, d1, d2, d3, d4, d5⟩ := c2.setS (F := F) (i := i) (c := 5) (ic := 5) rfl (by omega) (by omega) (nI (vN (cu (.ok p >>= sk len 2) >>= rBy b len)))
  obtain ⟨z5, f1, f2, f3⟩ := d2.number (F := F) (lo := 0) (hi := 15) (il := 0) (ih := 15) rfl rfl (by omega) (by omega)
  obtain ⟨z6, g1, g2, g3, g4, g5⟩ := f2.setS (F := F) (i := i) (c := 0) (ic := 0) rfl (by omega) (by omega) (nI (vN (cu (cu (.ok p >>= sk len 2) >>= rBy b len) >>= rN b len 0 15)))
  obtain ⟨z7, h1, h2, h3, h4, h5⟩ := g2.setS (F := F) (i := i) (c := 3) (ic := 3) rfl (by omega) (by omega) 0
  have m1 : FrKd kp [kp + 3] [] [0, 1, 3] z z1 := a5.g (by simp)
  have m2 : FrKd kp [kp + 3] [] [0, 1, 3] z z2 := m1.trans (b3.mono (by simp) (by simp) (by simp))
  have m3 : FrKd kp [kp + 3] [] [0, 1, 3] z z3 := m2.trans (c3.g (by simp))
  have m4 : FrKd kp [kp + 3] [] [0, 1, 3] z z4 := m3.trans (d3.mono (by simp) (by simp) (by simp))
  have m5 : FrKd kp [kp + 3] [] [0, 1, 3] z z5 := m4.trans (f3.g (by simp))
  have m6 : FrKd kp [kp + 3] [] [0, 1, 3] z z6 := m5.trans (g3.mono (by simp) (by simp) (by simp))
  have m7 : FrKd kp [kp + 3] [] [0, 1, 3] z z7 := m6.trans (h3.mono (by simp) (by simp) (by simp))
  have row5 : ∀ x, z5.1 (kp + 3) x = z4.1 (kp + 3) x := fun x => by rw [f3.2.1 (kp + 3) (by omega) (by omega) (by simp)]
  have row3 : ∀ x, z3.1 (kp + 3) x = z2.1 (kp + 3) x := fun x => by rw [c3.2.1 (kp + 3) (by omega) (by omega) (by simp)]
  have row1 : ∀ x, z1.1 (kp + 3) x = z.1 (kp + 3) x := fun x => by rw [a5.2.1 (kp + 3) (by omega) (by omega) (by simp)]
  have eqn : cu (cu (cu (.ok p >>= sk len 2) >>= rBy b len) >>= rN b len 0 15) = cu (pFo b len p) := by
    unfold pFo
    have := sk3 (len := len) (b := b) p (fun x => rN b len 0 15 x >>= fun a => (.ok (p, a.2) : Ex (Nat × Nat)))
    rw [← this, ok_bq]
    cases sk len 2 p with
    | error w => rfl
    | ok s =>
      rw [ok_bq]
      show cu (cu (rBy b len s.2) >>= rN b len 0 15) = _
      cases rBy b len s.2 with
      | error w => rfl
      | ok a =>
        rw [ok_bq]
        show cu (rN b len 0 15 a.2) = _
        cases rN b len 0 15 a.2 <;> rfl
  rw [eqn] at h2
  refine ⟨z7, ?_, h2, ?_, ?_, m7⟩
  · rw [a1, cal_s, h.1.p, grd_true, b1, cal_s, m2.1, h.1.2.2.1, lnk_s, c1, cal_s, h.1.p, grd_true, d1, cal_s, m4.1, h.1.2.2.1, lnk_s, f1, cal_s, h.1.p, grd_true, g1, cal_s, m6.1, h.1.2.2.1, lnk_s, h.1.p, grd_true, h1, cal_s]
  · intro c y
    unfold pFo at y
    obtain ⟨s, y1, y⟩ := bq_ok y
    obtain ⟨a, y2, y⟩ := bq_ok y
    have sl := sk_ok y1
    have es := sk_i y1
    subst es
    have y2' : rN b len 0 15 (p + 3) = .ok a := y2
    obtain ⟨_, ea, _⟩ := rN_ok y2'
    subst ea
    have e1 : sk len 2 p = .ok ((), p + 2) := by unfold sk; rw [if_pos (by omega)]
    have e2 : rBy b len (p + 2) = .ok (b (p + 2), p + 3) := by unfold rBy; rw [if_pos (by omega)]
    refine ⟨?_, ?_, ?_, ?_⟩
    · rw [h5 _ (by omega), g4, ok_bq, e1]
      show nI (vN (cu (rBy b len (p + 2)) >>= rN b len 0 15)) = _
      rw [e2]
      show nI (vN (rN b len 0 15 (p + 3))) = _
      rw [y2']; rfl
    · rw [h4]; rfl
    · rw [h5 _ (by omega), g5 _ (by omega), row5, d5 _ (by omega), row3, b4, a3 p rfl (by omega)]
    · rw [h5 _ (by omega), g5 _ (by omega), row5, d4, ok_bq, e1]
      show nI (vN (rBy b len (p + 2))) = _
      rw [e2]; rfl
  · intro x hx
    rw [h5 _ (by omega), g5 _ (by omega), row5, d5 _ (by omega), row3, b5 _ (by omega), row1]
theorem KX.fores {al own : Nat} (ha : al ≤ 64) : ∀ m i g z r, i + m = al → m < g → KX sh n z kp kb b len J r → z.1 kp 9 = nI al → ∃ z', fn_X6_readForeignStructures_L32 F sh n 60 g z (nI i) = some (z', ()) ∧ KX sh n z' kp kb b len J (cu (r >>= pFos b len m)) ∧ (∀ q, (r >>= pFos b len m) = .ok q → RoF z' kp b i q.1) ∧ (∀ x, x < 7 * i → z'.1 (kp + 3) x = z.1 (kp + 3) x) ∧ FrKd kp [kp + 3] [] [0, 1, 3] z z' := by
  intro m
  induction m with
  | zero =>
    intro i g z r ei hg h e9
    obtain ⟨g, rfl⟩ : ∃ q, g = q + 1 := ⟨g - 1, by omega⟩
    unfold fn_X6_readForeignStructures_L32
    rw [h.1.2.2.1, lnk_s, h.1.p, grd_true, e9, if_pos ((nI_leI (by omega) (by omega)).mpr (by omega))]
    refine ⟨z, rfl, ?_, ?_, fun _ _ => rfl, FrKd.rfl'⟩
    · cases r with
      | error e => exact h
      | ok p => exact h
    · intro q e
      cases r with
      | error e' => cases e
      | ok p =>
        rw [ok_bq] at e
        cases e
        exact fun k hk => absurd hk (by simp)
  | succ m ih =>
    intro i g z r ei hg h e9
    obtain ⟨g, rfl⟩ : ∃ q, g = q + 1 := ⟨g - 1, by omega⟩
    unfold fn_X6_readForeignStructures_L32
    rw [h.1.2.2.1, lnk_s, h.1.p, grd_true, e9, if_neg (fun y => by have := (nI_leI (by omega) (by omega)).mp y; omega)]
    cases r with
    | error e =>
      rw [if_neg h.ne0]
      exact ⟨z, rfl, h, fun q y => (by cases y), fun _ _ => rfl, FrKd.rfl'⟩
    | ok p =>
      obtain ⟨z1, s1, s2, s3, s4, s5⟩ := h.fore1 (F := F) (i := i) (by omega) (K := fun z => fn_X6_readForeignStructures_L32 F sh n 60 g z (nI i + 1))
      have hp := h.1.p
      rw [hp] at s1
      rw [if_pos h.is0, lnk_s, ok_bq]
      rw [hp, s1, nI_1]
      obtain ⟨z2, t1, t2, t3, t4, t5⟩ := ih (i + 1) g z1 (cu (pFo b len p)) (by omega) (by omega) s2 (by rw [s5.2.2.2.1 9 (by simp)]; exact e9)
      refine ⟨z2, t1, ?_, ?_, fun x hx => (t4 x (by omega)).trans (s4 x hx), s5.trans t5⟩
      · unfold pFos
        cases e : pFo b len p with
        | error w => rw [e] at t2; exact t2
        | ok c =>
          rw [e] at t2
          rw [ok_bq]
          have t2' : KX sh n z2 kp kb b len J (cu (pFos b len m c.2)) := t2
          cases e' : pFos b len m c.2 with
          | error w => rw [e'] at t2'; exact t2'
          | ok d => rw [e'] at t2'; exact t2'
      · intro q y
        unfold pFos at y
        obtain ⟨c, y1, y⟩ := bq_ok y
        obtain ⟨d, y2, y⟩ := bq_ok y
        cases y
        rw [y1] at t3
        exact RoF.cons ((s3 c y1).fr (fun x hx => t4 x (by omega))) (t3 d y2)
end
