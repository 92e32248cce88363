/-! THE CLASS'S READER: reading as a whole -/
def FtC (z : St) (r : Flt) : Prop := match r with | none => z.1 60 1 = nI 0 ∧ z.1 60 0 = nI 0 | some e => z.1 60 1 = nI e.1 ∧ 0 < e.1 ∧ e.1 < 16 ∧ z.1 60 0 = nI e.2
section
variable {F n : Nat} {sh : Nat → Nat × Nat} {z z' : St} {kp kb len : Nat} {b : Nat → Nat} {M : MP} {J : Bool} {r : Ex Nat}
theorem FrHo.k (f : FrHo z z') (hk : kp + 4 < 60) : FrKd kp [61] [] [] z z' := ⟨by rw [f.1], fun k _ _ h => f.2 k (by simpa using h), fun _ _ => by rw [f.1], fun j _ => by rw [f.2 kp (by omega)], fun j _ => by rw [f.2 60 (by omega)]⟩
theorem CPo.frk {ks js hs : List Nat} (h : CPo sh n z kp b len M) (f : FrKd kp ks js hs z z') (h1 : kp + 1 ∉ ks ∧ kp + 2 ∉ ks ∧ kp + 3 ∉ ks ∧ kp + 4 ∉ ks) (h2 : js = []) : CPo sh n z' kp b len M := by
  have hk := isP_ne h.2.1
  obtain ⟨a1, a2, a3, a4⟩ := h
  refine ⟨a1.of f.1, a2, ?_, a4⟩
  obtain ⟨t1, t2, t3, t4, t5, t6, t7, t8, t9⟩ := a3
  subst h2
  have g0 : ∀ j, z'.1 kp j = z.1 kp j := fun j => f.2.2.2.1 j (by simp)
  have g2 := f.2.1 (kp + 2) (by omega) (by omega) h1.2.1
  have g3 := f.2.1 (kp + 3) (by omega) (by omega) h1.2.2.1
  have g4 := f.2.1 (kp + 4) (by omega) (by omega) h1.2.2.2
  refine ⟨by rw [g0, g0, g0, g0, g0, g0, g0]; exact t1, fun k hk => ?_, fun k hk => ?_, fun k hk => ?_, fun k hk => ?_, ?_, ?_, t8, t9⟩
  · have := t2 k hk; unfold SRo at this ⊢; rw [g3]; exact this
  · have := t3 k hk; unfold FoR at this ⊢; rw [g3]; exact this
  · have := t4 k hk; unfold CRo at this ⊢; rw [g4]; exact this
  · have := t5 k hk; unfold GRo at this ⊢; rw [g4]; exact this
  · unfold TyT at t6 ⊢; rw [g0, f.2.2.1 (kp + 1) h1.1]; exact t6
  · unfold SrT at t7 ⊢; rw [g0, g2]; exact t7
theorem KX.l151 {W : WR} {p : Nat} (hd : ∀ s, s < M.1.length → W s s = isRd M s) : ∀ k s g z e, s + k = M.1.length → k < g → KX sh n z kp kb b len J (jg e (.ok p)) → CPo sh n z kp b len M → HW z M.1.length W → ∃ z', fn_X6_findRound_L151 F sh n (nI M.1.length) 60 g z (nI s) = some (z', ()) ∧ KX sh n z' kp kb b len J (jg (orE e (jRd M k s)) (.ok p)) ∧ FC kp z z' := by
  intro k
  induction k with
  | zero =>
    intro s g z e ei hg h hC hW
    obtain ⟨g, rfl⟩ : ∃ q, g = q + 1 := ⟨g - 1, by omega⟩
    have l32 := hC.2.2.2.1.1
    unfold fn_X6_findRound_L151
    rw [if_pos ((nI_leI (by omega) (by omega)).mpr (by omega))]
    refine ⟨z, rfl, ?_, FrKd.rfl'⟩
    show KX sh n z kp kb b len J (jg (orE e none) (.ok p))
    rw [orE_n]; exact h
  | succ k ih =>
    intro s g z e ei hg h hC hW
    obtain ⟨g, rfl⟩ : ∃ q, g = q + 1 := ⟨g - 1, by omega⟩
    have l32 := hC.2.2.2.1.1
    have hk := isP_ne hC.2.1
    obtain ⟨r1, r2, r3⟩ := b_read hC.1
    have ok1 : okA sh n 61 101 (nI s) = true := by rw [r3]; exact okI_nI (by omega) (by omega)
    have bt := hW s (by omega) s (by omega)
    rw [hd s (by omega)] at bt
    have pl := (hC.2.2.1.2.1 s (by omega)).2.1
    rw [Nat.zero_add] at pl
    unfold fn_X6_findRound_L151 fn_X6_findRound_B184
    rw [if_neg (fun y => by have := (nI_leI (by omega) (by omega)).mp y; omega), r2, lnk_s, ok1, grd_true, nI_clamp (by omega), h.1.2.2.1, lnk_s, h.1.p, grd_true, hC.sCol (c := 1) (ic := 1) rfl (by omega) (by omega), cal_s, pl, nI_1]
    show ∃ z', _ ∧ KX sh n z' kp kb b len J (jg (orE e (if isRd M s = true then some (14, (M.1.getD s dSP).1) else jRd M k (s + 1))) (.ok p)) ∧ _
    cases er : isRd M s with
    | false =>
      rw [er] at bt
      rw [if_pos ((ib_ush _ (by omega)).mpr bt), if_neg (by simp)]
      exact ih (s + 1) g z e (by omega) (by omega) h hC hW
    | true =>
      rw [er] at bt
      rw [if_neg (fun y => by rw [(ib_ush _ (by omega)).mp y] at bt; cases bt), if_pos rfl]
      obtain ⟨z1, s1, s2, s3⟩ := h.fail (F := F) (w := 14) (f := fun _ => (M.1.getD s dSP).1) (iw := 14) (x := nI (M.1.getD s dSP).1) rfl (fun _ _ => rfl) (by omega) (by omega)
      have s2' : KX sh n z1 kp kb b len J (jg (orE e (some (14, (M.1.getD s dSP).1))) (.ok p)) := by
        cases e with
        | none => exact s2
        | some w => exact s2
      rw [s1, cal_s]
      obtain ⟨z2, t1, t2, t3⟩ := ih (s + 1) g z1 _ (by omega) (by omega) s2' (hC.frk s3 (by simp) rfl) (fun i hi x hx => by rw [s3.2.1 61 (by omega) (by omega) (by simp)]; exact hW i hi x hx)
      refine ⟨z2, t1, ?_, s3.trans t3⟩
      have : orE (orE e (some (14, (M.1.getD s dSP).1))) (jRd M k (s + 1)) = orE e (some (14, (M.1.getD s dSP).1)) := by
        cases e <;> rfl
      rw [this] at t2; exact t2
theorem KX.rounds (hF : 300 ≤ F) {p : Nat} (h : KX sh n z kp kb b len J (.ok p)) (hC : CPo sh n z kp b len M) (hj : jM b M = none) : ∃ z', fn_X6_findRound F sh n z 60 = some (z', ()) ∧ KX sh n z' kp kb b len J (jg (jRd M M.1.length 0) (.ok p)) ∧ CPo sh n z' kp b len M ∧ FrKd kp [61] [] [0, 1, 3] z z' := by
  have l32 := hC.2.2.2.1.1
  have hk := isP_ne hC.2.1
  have hb : ∀ q, q < len → b q < 256 := fun q hq => by obtain ⟨v, _, _, b8⟩ := h.1.2.2.2.2.2.2.2.1 q hq; exact b8
  obtain ⟨z1, a1, a2, a3⟩ := CPo.l10 (F := F) hF hb hj M.1.length 0 F z (by omega) (by omega) hC h.1.2.2.1 (fun i hi => absurd hi (by omega))
  have k1 := a3.k hk.1
  have hC1 := hC.frk k1 (by simp; omega) rfl
  obtain ⟨z2, b1, b2, b3⟩ := HW.l97 (F := F) (sh := sh) (n := n) (by omega) l32 M.1.length 0 F z1 (hA M) (by omega) (by omega) hC1.1 a2
  have k2 := b3.k hk.1
  have hC2 := hC1.frk k2 (by simp; omega) rfl
  have kx := (h.fr k1 (by simp) (by simp) (by simp)).fr k2 (by simp) (by simp) (by simp)
  obtain ⟨z3, c1, c2, c3⟩ := KX.l151 (F := F) (M := M) (W := wOut M.1.length M.1.length 0 (hA M)) (fun s hs => wOut_rd hs) M.1.length 0 F z2 none (by omega) (by omega) kx hC2 b2
  have a1' : fn_X6_findRound_L10 F sh n (nI M.1.length) 60 F z 0 = fn_X6_findRound_L97 F sh n (nI M.1.length) 60 F z1 0 := a1
  have b1' : fn_X6_findRound_L97 F sh n (nI M.1.length) 60 F z1 0 = fn_X6_findRound_L151 F sh n (nI M.1.length) 60 F z2 0 := b1
  have c1' : fn_X6_findRound_L151 F sh n (nI M.1.length) 60 F z2 0 = some (z3, ()) := c1
  unfold fn_X6_findRound
  rw [h.1.o, grd_true, h.1.2.2.1, lnk_s, h.1.p, grd_true, lt_t, hC.2.2.1.1.2.1, a1', b1', c1']
  exact ⟨z3, rfl, c2, hC2.frk c3 (by simp) rfl, ((k1.mono (by simp) (by simp) (by simp)).trans (k2.mono (by simp) (by simp) (by simp))).trans (c3.g (by simp))⟩
theorem KX.ft {e : Flt} {p : Nat} (h : KX sh n z kp kb b len J (jg e (.ok p))) : FtC z e := by
  cases e with
  | none => exact ⟨h.2.2.2.1, h.2.2.2.2⟩
  | some w => exact ⟨h.2.1, h.2.2.1, h.2.2.2.1, h.2.2.2.2⟩
theorem readCT (hF : 1100 ≤ F) (hL : Lay sh n z) (hp : isP kp) (h0 : z.2.2 kp 0 = some kb) (hk5 : 513 ≤ kb) (h1 : z.1 kp 1 = nI len) (hl : len ≤ 2048) (hb : ∀ p, p < len → ∃ v, rb sh n z kb (nI p) = some v ∧ v &&& 255 = nI (b p) ∧ b p < 256) : ∃ z', fn_X6_read F sh n z 60 kp = some (z', z'.1 60 1) ∧ FtC z' (rdMd b len) ∧ (∀ q, pAll b len = .ok q → jM b q.1 = none → CPo sh n z' kp b len q.1) ∧ FrRd kp (sq z 60 2 (some kp)) z' := by
  have hk := isP_ne hp
  have hL' : Lay sh n (sq z 60 2 (some kp)) := hL.sq rfl
  have f1 : FrKd kp [] [] [0, 1] (sq z 60 2 (some kp)) (si (si (sq z 60 2 (some kp)) 60 1 0) 60 0 0) := (FrKd.si60 (by omega) (by simp)).trans (FrKd.si60 (by omega) (by simp))
  have l60 : (sq z 60 2 (some kp)).2.2 60 2 = some kp := by simp [sq]
  have lkp : (sq z 60 2 (some kp)).2.2 kp 0 = some kb := by
    have : (sq z 60 2 (some kp)).2.2 kp 0 = z.2.2 kp 0 := by simp [sq]; omega
    rw [this]; exact h0
  have e1 : (si (si (sq z 60 2 (some kp)) 60 1 0) 60 0 0).1 60 1 = nI 0 := by rw [si_oj (by omega), si_ss]; rfl
  have e0 : (si (si (sq z 60 2 (some kp)) 60 1 0) 60 0 0).1 60 0 = nI 0 := by rw [si_ss]; rfl
  unfold fn_X6_read
  rw [(b_read hL).1, grd_true, lt_t, lt_t, lt_t]
  have rbz : ∀ i, rb sh n (sq z 60 2 (some kp)) kb i = rb sh n z kb i := fun i => rfl
  generalize hy : sq z 60 2 (some kp) = y at *
  have y1 : y.1 = z.1 := by rw [← hy]; rfl
  generalize si (si y 60 1 0) 60 0 0 = w at *
  have kb0 : KB0 sh n w kp kb b len := by
    refine ⟨hL'.of f1.1, hp, by rw [f1.1]; exact l60, by rw [f1.1]; exact lkp, hk5, by rw [f1.2.2.2.1 1 (by simp), y1]; exact h1, hl, fun p hp => ?_⟩
    rw [rb_fr (f1.2.1 kb (by omega) (by omega) (by simp)), rbz]
    exact hb p hp
  obtain ⟨z1, J', a1, a2, a3, a4⟩ := readC0 (F := F) hF kb0 e1 e0
  have fz : FrRd kp y z1 := (f1.mono (by simp) (by simp) (by simp)).trans a4
  rw [a1]
  unfold fn_X6_read_B150 rdMd
  unfold rd2 at a2 a3
  cases e : pAll b len with
  | error x =>
    rw [e] at a2
    have a2' : KX sh n z1 kp kb b len J' (.error x) := a2
    rw [if_neg a2'.ne0]
    exact ⟨z1, rfl, ⟨a2'.2.1, a2'.2.2.1, a2'.2.2.2.1, a2'.2.2.2.2⟩, fun q y => (by cases y), fz⟩
  | ok q =>
    rw [e] at a2 a3
    have a2' : KX sh n z1 kp kb b len J' (cu (jg (jM b q.1) (.ok q))) := a2
    have a3' : ∀ q', jg (jM b q.1) (.ok q) = .ok q' → TMc z1 kp b q'.1 := a3
    show ∃ z', _ ∧ FtC z' (orE (jM b q.1) (jRd q.1 q.1.1.length 0)) ∧ _
    cases ej : jM b q.1 with
    | some x =>
      rw [ej] at a2'
      have a2e : KX sh n z1 kp kb b len J' (.error x) := a2'
      rw [if_neg a2e.ne0]
      refine ⟨z1, rfl, ⟨a2e.2.1, a2e.2.2.1, a2e.2.2.2.1, a2e.2.2.2.2⟩, fun q' y y2 => ?_, fz⟩
      cases y
      rw [ej] at y2; cases y2
    | none =>
      rw [ej] at a2' a3'
      have a2o : KX sh n z1 kp kb b len J' (.ok q.2) := a2'
      have hC : CPo sh n z1 kp b len q.1 := ⟨a2o.1.1, hp, a3' q rfl, (pAll_p e).1⟩
      obtain ⟨z2, b1, b2, b3, b4⟩ := a2o.rounds (F := F) (by omega) hC ej
      rw [if_pos a2o.is0, b1, cal_s]
      refine ⟨z2, rfl, b2.ft, fun q' y _ => ?_, fz.trans (b4.mono (by simp) (by simp) (by simp))⟩
      cases y
      exact b3
end
