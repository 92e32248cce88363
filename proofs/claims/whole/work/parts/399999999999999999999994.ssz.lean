/-! A MODULE IS TAKEN OR NOT: the class as a whole -/
theorem kp0_n : ∀ i, i < 9 → lkF (15 + 5 * i) 0 = none := by decide
def FrTc (kp t : Nat) (z z' : St) : Prop := (∀ k j, ¬ (k = 60 ∧ j = 2) → ¬ (k = 62 ∧ j = 2) → ¬ (k = kp ∧ j = 0) → z'.2.2 k j = z.2.2 k j) ∧ (∀ k, ¬ (60 ≤ k ∧ k ≤ 72) → ¬ (kp ≤ k ∧ k ≤ kp + 4) → z'.2.1 k = z.2.1 k) ∧ (∀ k, ¬ (60 ≤ k ∧ k ≤ 72) → ¬ (kp ≤ k ∧ k ≤ kp + 4) → k ≠ t → z'.1 k = z.1 k) ∧ ∀ j, j ≠ 14 → z'.1 t j = z.1 t j
theorem FrTc.trans {kp t : Nat} {z z' z'' : St} (f : FrTc kp t z z') (g : FrTc kp t z' z'') : FrTc kp t z z'' := ⟨fun k j a b c => (g.1 k j a b c).trans (f.1 k j a b c), fun k a b => (g.2.1 k a b).trans (f.2.1 k a b), fun k a b c => (g.2.2.1 k a b c).trans (f.2.2.1 k a b c), fun j a => (g.2.2.2 j a).trans (f.2.2.2 j a)⟩
theorem FrTc.ms {kp t : Nat} {z z' : St} (f : FrMs kp t z z') : FrTc kp t z z' := ⟨fun _ _ _ _ _ => by rw [f.1], fun _ _ _ => by rw [f.1], fun k _ b c => f.2.1 k (by omega) c, f.2.2⟩
theorem FrTc.lay {kp t i : Nat} (hk : kp = 15 + 5 * i) (hi : i < 9) {sh : Nat → Nat × Nat} {n : Nat} {z z' : St} (f : FrTc kp t z z') (h : Lay sh n z) : Lay sh n z' := ⟨h.1, h.2.1, fun k j x q => by
  rw [f.1 k j]
  · exact h.2.2 k j x q
  · intro c; rw [c.1, c.2] at q; have : lkF 60 2 = none := rfl; rw [this] at q; cases q
  · intro c; rw [c.1, c.2] at q; have : lkF 62 2 = none := rfl; rw [this] at q; cases q
  · intro c; rw [c.1, c.2, hk, kp0_n i hi] at q; cases q⟩
section
variable {F n : Nat} {sh : Nat → Nat × Nat} {z z' : St} {kp kb len t : Nat} {b : Nat → Nat} {M : MP} {D : Nat → Nat} {ws : Nat → Md} {wc : Nat} {dp : Nat → Nat → Nat}
theorem CWo.tc (h : CWo sh n z ws wc dp) (hk : kp = 15 + 5 * (wc + 1)) (hw : wc < 8) (ht : isT t) (f : FrTc kp t z z') : CWo sh n z' ws wc dp := by
  have ti : 113 ≤ t ∧ t < 513 := by obtain ⟨i, hi, e⟩ := ht; omega
  exact h.of2 (f.lay hk (by omega) h.1) (by rw [f.2.2.1 3 (by omega) (by omega) (by omega)]) (fun i hi => ⟨f.1 _ _ (by omega) (by omega) (by omega), fun k q1 q2 => ⟨f.2.2.1 k (by omega) (by omega) (by omega), f.2.1 k (by omega) (by omega)⟩⟩) (fun k hk => f.2.2.1 k (by omega) (by omega) (by omega))
/-- the new module, where it is taken -/
def CNw (sh : Nat → Nat × Nat) (n : Nat) (z : St) (kp kb : Nat) (b : Nat → Nat) (len : Nat) (ws : Nat → Md) (wc : Nat) (dp : Nat → Nat → Nat) : Prop := ∃ q, pAll b len = .ok q ∧ jM b q.1 = none ∧ 6 ≤ len ∧ CPr sh n z kp kb b len q.1 ∧ HD z kp (q.1.1.length + q.1.2.1.length) (mAll ws wc dp (mdOf b q.1)) ∧ ∀ s, s < q.1.1.length → mAll ws wc dp (mdOf b q.1) s ≤ 24
theorem takeC (hF : 1100 ≤ F) (hk : kp = 15 + 5 * (wc + 1)) (hw : wc < 8) (ht : isT t) (hW : CWo sh n z ws wc dp) (hN : WNo ws wc) (hkb : 513 ≤ kb) (hC : kb ≠ CBK) (ob : okO sh n kb 100 = true) (el : (sh kb).2 = len) (hl : len ≤ 2048) (hb : ∀ p, p < len → ∃ v, rb sh n z kb (nI p) = some v ∧ v &&& 255 = nI (b p) ∧ b p < 256) (v4 : Int32) : ∃ z' v, cal (fn_X5_lay F sh n z kp kb) (fun z_18 _ => lnk (z_18.2.2 0 7) (fun k_21 => grd (okO sh n k_21 6) (cal (fn_X6_read F sh n z_18 k_21 kp) (fun z_22 r_23 => lnk (z_22.2.2 0 7) (fun k_26 => grd (okO sh n k_26 6) (lt_ (si z_22 t 14 (z_22.1 k_26 0)) (fun z_29 => if (r_23 : Int32) = 0 then cal (fn_X11_misfitOf F sh n z_29 0 kp t) (fun z_62 r_63 => fn_X11_takeModule_B118 F sh n 0 kp t v4 z_62 r_63) else fn_X11_takeModule_B118 F sh n 0 kp t v4 z_29 r_23))))))) = fn_X11_takeModule_B144 F sh n 0 t v4 z' v ∧ TkC z' t v (vdM ws wc dp b len) ∧ FrTc kp t z z' ∧ (v = 0 → CNw sh n z' kp kb b len ws wc dp) := by
  have hL := hW.1
  have ti : 113 ≤ t ∧ t < 513 := by obtain ⟨i, hi, e⟩ := ht; omega
  have ip : isP kp := ⟨wc + 1, by omega, hk⟩
  have pn := isP_ne ip
  have p5 := (b_prog hL ip).1
  -- laying the bytes
  have L1 : Lay sh n (sq z kp 0 (some kb)) := hL.sq (by rw [hk]; exact kp0_n _ (by omega))
  have f1 : FrTc kp t z (sq z kp 0 (some kb)) := ⟨fun k j _ _ c => by
    unfold sq
    by_cases c1 : k = kp
    · have : j ≠ 0 := fun y => c ⟨c1, y⟩
      simp [this]; intro e; rw [e]
    · simp [c1], fun _ _ _ => rfl, fun _ _ _ _ => rfl, fun _ _ => rfl⟩
  have lk0 : (sq z kp 0 (some kb)).2.2 kp 0 = some kb := by simp [sq]
  unfold fn_X5_lay fn_X5_clear rlen
  rw [p5, grd_true, lt_t, if_neg hC, if_pos ob, bnd_s, lt_t, grd_true, lt_t, lt_t, lt_t, lt_t, cal_s, cal_s, el]
  generalize sq z kp 0 (some kb) = y0 at L1 f1 lk0
  have i1 : ∀ (j : Nat) (v : Int32) (y : St), FrTc kp t y (si y kp j v) := fun j v y => ⟨fun _ _ _ _ _ => rfl, fun _ _ _ => rfl, fun k _ b _ => si_ok (by omega), fun _ _ => by rw [si_ok (by omega)]⟩
  have f2 : FrTc kp t y0 (si (si (si (si (si y0 kp 1 (Int32.ofNat len)) kp 2 0) kp 4 0) kp 6 0) kp 12 0) := ((((i1 _ _ _).trans (i1 _ _ _)).trans (i1 _ _ _)).trans (i1 _ _ _)).trans (i1 _ _ _)
  have e1 : (si (si (si (si (si y0 kp 1 (Int32.ofNat len)) kp 2 0) kp 4 0) kp 6 0) kp 12 0).1 kp 1 = nI len := by
    rw [si_oj (by omega), si_oj (by omega), si_oj (by omega), si_oj (by omega), si_ss]; rfl
  have l2 : (si (si (si (si (si y0 kp 1 (Int32.ofNat len)) kp 2 0) kp 4 0) kp 6 0) kp 12 0).2.2 = y0.2.2 := rfl
  generalize si (si (si (si (si y0 kp 1 (Int32.ofNat len)) kp 2 0) kp 4 0) kp 6 0) kp 12 0 = y1 at f2 e1 l2
  have L2 : Lay sh n y1 := L1.of l2
  have f12 := f1.trans f2
  have lk1 : y1.2.2 kp 0 = some kb := by rw [l2]; exact lk0
  have hb1 : ∀ p, p < len → ∃ v, rb sh n y1 kb (nI p) = some v ∧ v &&& 255 = nI (b p) ∧ b p < 256 := fun p hp => by
    rw [rb_fr (f12.2.2.1 kb (by omega) (by omega) (by omega))]; exact hb p hp
  obtain ⟨z1, a1, a2, a3, a4⟩ := readCT (F := F) hF L2 ip lk1 hkb e1 hl hb1
  have f3 : FrTc kp t y1 z1 := by
    obtain ⟨g1, g2, g3, g4, g5⟩ := a4
    refine ⟨fun k j a _ _ => ?_, fun k a b => ?_, fun k a b c => ?_, fun j c => ?_⟩
    · rw [g1]
      unfold sq
      by_cases c1 : k = 60
      · have : j ≠ 2 := fun y => a ⟨c1, y⟩
        simp [this]; intro e; rw [e]
      · simp [c1]
    · rw [g3 k (by simp; omega)]; rfl
    · rw [g2 k (by omega) (by omega) (by simp; omega)]; rfl
    · rw [g2 t (by omega) (by omega) (by simp; omega)]; rfl
  have f13 := f12.trans f3
  have Lz1 : Lay sh n z1 := f13.lay hk (by omega) hL
  have lk7 : ∀ y : St, Lay sh n y → y.2.2 0 7 = some 60 := fun y hy => hy.2.2 0 7 60 rfl
  have o6 : okO sh n 60 6 = true := (b_read hL).1
  rw [lk7 y1 L2, lnk_s, o6, grd_true, a1, cal_s, lk7 z1 Lz1, lnk_s, o6, grd_true, lt_t]
  have fs : FrTc kp t z1 (si z1 t 14 (z1.1 60 0)) := FrTc.ms FrMs.s
  have f14 := f13.trans fs
  unfold vdM
  cases e : rdMd b len with
  | some x =>
    rw [e] at a2
    obtain ⟨b1, b2, b3, b4⟩ := a2
    have nz : ¬ nI x.1 = 0 := nI_ne0 b2 (by omega)
    unfold fn_X11_takeModule_B118
    rw [b1, if_neg nz, if_neg nz, b4]
    rw [b4] at f14
    exact ⟨_, _, rfl, ⟨rfl, b2, by show x.1 < 64; omega, si_ss⟩, f14, fun q => absurd q nz⟩
  | none =>
    rw [e] at a2
    obtain ⟨b1, b2⟩ := a2
    obtain ⟨q, c1, c2⟩ := rdMd_n e
    have h6 := (pAll_p c1).2
    have cpo := a3 q c1 c2
    have lkz : z1.2.2 kp 0 = some kb := by
      rw [a4.1]
      have : (sq y1 60 2 (some kp)).2.2 kp 0 = y1.2.2 kp 0 := by simp [sq]; omega
      rw [this]; exact lk1
    have cp : CPr sh n z1 kp kb b len q.1 := ⟨cpo, lkz, by rw [a4.2.2.2.1 1 (by simp)]; exact e1, hl, fun p hp => by
      rw [rb_fr (f13.2.2.1 kb (by omega) (by omega) (by omega))]; exact hb p hp⟩
    have cp1 : CPr sh n (si z1 t 14 (z1.1 60 0)) kp kb b len q.1 := cp.st hkb (by omega)
    have W1 := hW.tc hk hw ht f14
    obtain ⟨z2, v, m1, m2, m3, m4, m5, m6⟩ := cp1.misfit (F := F) hF hk hkb ht W1 hN h6 c2
    have f15 := f14.trans (FrTc.ms m5)
    rw [b1, if_pos (show nI 0 = 0 from rfl), m1, cal_s, c1]
    show ∃ z' v', _ ∧ TkC z' t v' (msF ws wc dp (mdOf b q.1)) ∧ _
    rw [msF_g]
    unfold fn_X11_takeModule_B118
    cases eg : msG ws wc dp (mdOf b q.1) with
    | some x =>
      rw [eg] at m2
      obtain ⟨w1, w2, w3, w4⟩ := m2
      have nz : ¬ v = 0 := by rw [w1]; exact nI_ne0 w2 (by omega)
      rw [if_neg nz]
      exact ⟨z2, v, rfl, ⟨w1, w2, w3, w4⟩, f15, fun q => absurd q nz⟩
    | none =>
      rw [eg] at m2
      have v0 : v = 0 := m2
      subst v0
      obtain ⟨d1, d2⟩ := m6 rfl
      obtain ⟨z3, v, k1, k2, k3⟩ := m3.lookT (F := F) hF hkb c2
      have f6 : FrTc kp t z2 z3 := by
        obtain ⟨g1, g2⟩ := k3
        refine ⟨fun k j _ a _ => ?_, fun k a b => ?_, fun k a b c => ?_, fun j c => ?_⟩
        · rw [g1]
          unfold sq
          by_cases c1 : k = 62
          · have : j ≠ 2 := fun y => a ⟨c1, y⟩
            simp [this]; intro e; rw [e]
          · simp [c1]
        · rw [(g2 k (by omega)).2]; rfl
        · rw [(g2 k (by omega)).1]; rfl
        · rw [(g2 t (by omega)).1]; rfl
      have f16 := f15.trans f6
      have L3 : Lay sh n z3 := f16.lay hk (by omega) hL
      have lk8 : ∀ y : St, Lay sh n y → y.2.2 0 8 = some 62 := fun y hy => hy.2.2 0 8 62 rfl
      have o3 : okO sh n 62 3 = true := lay_o hL 62 3 0 (by decide) rfl
      have cp3 : CPr sh n z3 kp kb b len q.1 := m3.of2 L3 (by
        rw [k3.1]; simp [sq]; omega) (fun k q1 q2 => by
        have := k3.2 k (by omega)
        exact ⟨this.1, this.2⟩) (f6.2.2.1 kb (by omega) (by omega) (by omega))
      have cp4 : CPr sh n (si z3 t 14 (z3.1 62 0)) kp kb b len q.1 := cp3.st hkb (by omega)
      rw [if_pos rfl, lk8 z2 m3.1.1, lnk_s, o3, grd_true, k1, cal_s, lk8 z3 L3, lnk_s, o3, grd_true, lt_t]
      have f17 : FrTc kp t z (si z3 t 14 (z3.1 62 0)) := f16.trans (FrTc.ms FrMs.s)
      refine ⟨_, v, rfl, ?_, f17, fun hv => ⟨q, c1, c2, h6, cp4, fun s hs => ?_, d2⟩⟩
      · show TkC _ t v (orE none (match lookA (mdOf b q.1) (fsOf (mdOf b q.1)) 0 with | some q => some (30 + q.1, 1024 * q.2.1 + q.2.2) | none => none))
        cases ek : lookA (mdOf b q.1) (fsOf (mdOf b q.1)) 0 with
        | none =>
          rw [ek] at k2
          exact k2.1
        | some x =>
          rw [ek] at k2
          obtain ⟨w1, w2, w3, w4⟩ := k2
          exact ⟨w1, by show 0 < 30 + x.1; omega, by show 30 + x.1 < 64; omega, by rw [si_ss]; exact w4⟩
      · rw [si_ok (by omega), (k3.2 (kp + 3) (by omega)).1]
        exact d1 s hs
end
