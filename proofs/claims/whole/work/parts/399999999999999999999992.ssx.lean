/-! A MODULE IS TAKEN OR NOT: the reference as a whole -/
section
variable {F n : Nat} {sh : Nat → Nat × Nat} {z z' : St} {ku len x0 st : Nat} {b : Nat → Nat} {M : MP} {D : Nat → Nat} {ws : Nat → Md} {wc u : Nat} {dp : Nat → Nat → Nat}
theorem rdMd_lt {e : Nat × Nat} (h : FtR z ku (some e)) : 0 < e.1 ∧ e.1 < 16 := ⟨h.2.1, h.2.2.1⟩
/-- the new module, where it is taken -/
def RNw (sh : Nat → Nat × Nat) (n : Nat) (z : St) (u : Nat) (b : Nat → Nat) (len : Nat) (ws : Nat → Md) (wc : Nat) (dp : Nat → Nat → Nat) : Prop := ∃ q, pAll b len = .ok q ∧ jM b q.1 = none ∧ 6 ≤ len ∧ UM sh n z (423 + 9 * u) b len q.1 ∧ HR z u (q.1.1.length + q.1.2.1.length) (mAll ws wc dp (mdOf b q.1)) ∧ ∀ s, s < q.1.1.length → mAll ws wc dp (mdOf b q.1) s ≤ 24
theorem takeR (hF : 3000 ≤ F) (hu : u = wc + 1) (hW : RWo sh n z ws wc dp) (hN : WNo ws wc) (h0 : dp 0 0 = 2) (hl : len ≤ 2048) (hs : x0 < 423 ∧ x0 ≠ 337) (h31 : st + 2048 < 2 ^ 31) (ho : ∀ p, p < len → okA sh n x0 100 (nI (st + p)) = true) (hb : ∀ p, p < len → b p = bOf (z.1 x0 (st + p))) : ∃ z' v, fn_X18_takeModule F sh n z 337 x0 (nI st) (nI len) (nI u) = some (z', v) ∧ TkR z' v (vdM ws wc dp b len) ∧ FrTk u z z' ∧ (v = 0 → RNw sh n z' u b len ws wc dp) := by
  have hL := hW.1
  have wc8 := hW.2.2.1
  have iu : isU (423 + 9 * u) := ⟨u, by omega, rfl⟩
  obtain ⟨z1, a1, a2, a3, a4, a5⟩ := readRT (F := F) (b := b) (st := st) (by omega) hL iu hl (.inl (by omega)) h31 ho hb
  have L1 : Lay sh n z1 := a3.1
  unfold fn_X18_takeModule
  rw [(b_model hL).1, grd_true, hL.2.2 337 4 341 rfl, lnk_s, b_units_a hL, okI_nI (by omega) (by omega), grd_true, nI_clamp (by omega), (b_units hL (i := u) (by omega)).1, lnk_s, (b_unit hL iu).1, grd_true, a1, cal_s]
  unfold fn_X18_takeModule_B34 vdM
  rw [lt_t, lt_t]
  cases e : rdMd b len with
  | some x =>
    rw [e] at a2
    obtain ⟨b1, b2, b3, b4⟩ := a2
    have nz : ¬ nI x.1 = 0 := nI_ne0 b2 (by omega)
    rw [b1, if_neg nz, if_neg nz, b4]
    exact ⟨_, _, rfl, ⟨rfl, b2, by show x.1 < 64; omega, si_ss⟩, (FrTk.un a5).trans FrTk.s23, fun q => absurd q nz⟩
  | none =>
    rw [e] at a2
    have b1 : z1.1 (423 + 9 * u) 3 = nI 0 := a2
    obtain ⟨q, c1, c2⟩ := rdMd_n e
    have um := a4 q c1
    have h6 := (pAll_p c1).2
    have hA := pAll_a c1
    have f1 : FrTk u z (si z1 337 23 0) := (FrTk.un a5).trans FrTk.s23
    have um1 : UM sh n (si z1 337 23 0) (423 + 9 * u) b len q.1 := um.fmk (L1.of rfl) (fun k k1 k2 => si_ok (by omega))
    obtain ⟨z2, v, d1, d2, d3, d4⟩ := (hW.tk hu f1).misfit (F := F) hF hu rfl hN h0 um1 h6 c2 hA
    rw [b1, if_pos (show nI 0 = 0 from rfl), if_pos (show nI 0 = 0 from rfl), c1, d1]
    refine ⟨z2, v, rfl, d2, f1.trans d3.1, fun hv => ?_⟩
    obtain ⟨g1, g2⟩ := d4 hv
    -- the unit itself is left alone behind its reading
    exact ⟨q, c1, c2, h6, um1.fmk (d3.1.lay um1.1.1) (fun k k1 k2 => d3.2 k (by omega)), g1, g2⟩
end
