/-! BOTH MACHINES SIDE BY SIDE: the reference's arguments -/
section
variable {E : Ev} {F n : Nat} {sh : Nat → Nat × Nat} {lim : Nat} {z z' : St} {na : Nat} {ak : Nat → Ask} {g : Nat} {u f c t : Nat} {kd : Nat → Nat} {hi lo : Nat → Int64}
theorem rargs (hc : c ≤ 8) (ht : t < 2 ^ 20) (hk : ∀ i, i < c → 1 ≤ kd i ∧ kd i ≤ 5) {x1 : Int32} : ∀ r p fuel z, p + r = c → r < fuel → RB sh n z (agH 0 p kd hi lo) p p (fun k => k) na ak g lim → RxA sh n z t c f kd hi lo → ∃ z', fn_X18_callOne_L65 F sh n 337 (nI t) x1 fuel z (nI p) = cal (fn_X18_enter F sh n z' 337 x1 (nI f) (nI c)) (fun z_35 _ => fn_X18_callOne_L141 F sh n 337 (nI t) F z_35) ∧ RB sh n z' (agH 0 c kd hi lo) c c (fun k => k) na ak g lim ∧ FrR z z' := by
  intro r
  induction r with
  | zero =>
    intro p fuel z hp hf h tx
    obtain ⟨fl, rfl⟩ : ∃ k, fuel = k + 1 := ⟨fuel - 1, by omega⟩
    have : p = c := by omega
    subst this
    refine ⟨z, ?_, h, FrR.rfl'⟩
    obtain ⟨k9, k0, k1, k2, k3, ⟨a1, a2, a3, a4, a5⟩, _, ⟨c0, c1⟩, c2, c3, c4⟩ := tx
    show lnk (z.2.2 337 60) _ = _
    rw [a2, lnk_s, c1, grd_true, nI_clamp (by omega), c3, if_pos (Int32.le_refl _), a1, lnk_s, c0, grd_true, lnk_s, c1, grd_true, c2, c3]
  | succ r ih =>
    intro p fuel z hp hf h tx
    obtain ⟨fl, rfl⟩ : ∃ k, fuel = k + 1 := ⟨fuel - 1, by omega⟩
    have hkp := hk p (by omega)
    have tx0 := tx
    obtain ⟨k9, k0, k1, k2, k3, ⟨a1, a2, a3, a4, a5⟩, _, ⟨c0, c1⟩, c2, c3, c4⟩ := tx
    obtain ⟨⟨y1, y2, y3⟩, y4, y5, y6⟩ := c4 p (by omega)
    obtain ⟨z1, z2, m1, m2, m3, m4⟩ := h.arg (F := F) (k := kd p) (x := hi p) (y := lo p) (by omega) (by omega) (by omega)
    have eH : upH (agH 0 p kd hi lo) p (kd p, hi p, lo p, []) = agH 0 (p + 1) kd hi lo := by
      have := agH_up (b := 0) (c := p) (kd := kd) (hi := hi) (lo := lo)
      rw [Nat.zero_add] at this
      exact this
    have eP : (fun i => if i = p then p else i) = fun i : Nat => i := by
      funext i
      by_cases q : i = p
      · rw [if_pos q, q]
      · rw [if_neg q]
    rw [eH, eP] at m3
    obtain ⟨z', i1, i2, i3⟩ := ih (p + 1) fl z2 (by omega) (by omega) m3 (tx0.fr m4)
    refine ⟨z', ?_, i2, m4.trans i3⟩
    have nle : ¬ nI c ≤ nI p := fun q => by have := (nI_leI (show c < 2 ^ 31 by omega) (show p < 2 ^ 31 by omega)).mp q; omega
    have ev : (8 : Int32) * nI t + nI p = nI (8 * t + p) := by rw [show (8 : Int32) = nI 8 from rfl, pk_mul, nI_add]
    have L := h.1
    show lnk (z.2.2 337 60) _ = _
    rw [a2, lnk_s, c1, grd_true, nI_clamp (show t < 2 ^ 31 by omega), c3, if_neg nle, ev, lt_t, L.2.2 337 15 349 rfl, lnk_s, a3, lnk_s, y1, grd_true, a4, lnk_s, y2, grd_true, a5, lnk_s, y3, grd_true, lay_o L 349 15 0 (by decide) rfl, grd_true, nI_clamp (show 8 * t + p < 2 ^ 31 by omega), y4, y5, y6, m1, cal_s, m2, cal_s, nI_1]
    exact i1
end
