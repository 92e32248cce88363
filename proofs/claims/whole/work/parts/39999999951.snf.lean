/-! BOTH MACHINES SIDE BY SIDE: all arguments -/
def TxA (sh : Nat → Nat × Nat) (n : Nat) (z : St) (kt c : Nat) (kd : Nat → Nat) (hi lo : Nat → Int64) : Prop := ∃ ka kb kc, z.1 kt 7 = nI c ∧ z.2.2 kt 8 = some ka ∧ z.2.2 kt 9 = some kb ∧ z.2.2 kt 10 = some kc ∧ (113 ≤ ka ∧ 113 ≤ kb ∧ 113 ≤ kc) ∧ ∀ i, i < c → (okA sh n ka 101 (nI i) = true ∧ okA sh n kb 102 (nI i) = true ∧ okA sh n kc 102 (nI i) = true) ∧ z.1 ka i = nI (kd i) ∧ z.2.1 kb i = hi i ∧ z.2.1 kc i = lo i
def RxA (sh : Nat → Nat × Nat) (n : Nat) (z : St) (t c f : Nat) (kd : Nat → Nat) (hi lo : Nat → Int64) : Prop := ∃ k9 k0 k1 k2 k3, (z.2.2 337 59 = some k9 ∧ z.2.2 337 60 = some k0 ∧ z.2.2 337 61 = some k1 ∧ z.2.2 337 62 = some k2 ∧ z.2.2 337 63 = some k3) ∧ (k9 ≠ 337 ∧ ¬ mcl k9 ∧ k0 ≠ 337 ∧ ¬ mcl k0 ∧ k1 ≠ 337 ∧ ¬ mcl k1 ∧ k2 ≠ 337 ∧ ¬ mcl k2 ∧ k3 ≠ 337 ∧ ¬ mcl k3) ∧ (okA sh n k9 101 (nI t) = true ∧ okA sh n k0 101 (nI t) = true) ∧ z.1 k9 t = nI f ∧ z.1 k0 t = nI c ∧ ∀ i, i < c → (okA sh n k1 100 (nI (8 * t + i)) = true ∧ okA sh n k2 102 (nI (8 * t + i)) = true ∧ okA sh n k3 102 (nI (8 * t + i)) = true) ∧ z.1 k1 (8 * t + i) = nI (kd i) ∧ z.2.1 k2 (8 * t + i) = hi i ∧ z.2.1 k3 (8 * t + i) = lo i
section
variable {E : Ev} {F n : Nat} {sh : Nat → Nat × Nat} {pk : Nat → Nat} {kt : Nat} {sl0 : Int32} {lim : Nat} {z z' : St} {na : Nat} {ak : Nat → Ask} {g : Nat} {u f c t : Nat} {kd ps ts : Nat → Nat} {hi lo : Nat → Int64} {cs cl : Nat → Nat → Nat}
theorem TxA.fc (h : TxA sh n z kt c kd hi lo) (hk : 113 ≤ kt) (f : FrC z z') : TxA sh n z' kt c kd hi lo := by
  obtain ⟨ka, kb, kc, h1, h2, h3, h4, ⟨h5, h6, h7⟩, h8⟩ := h
  have e : ∀ k, 113 ≤ k → z'.1 k = z.1 k ∧ z'.2.1 k = z.2.1 k := fun k hk => f.2.1 k (by omega) (by omega) (by omega)
  refine ⟨ka, kb, kc, by rw [(e kt hk).1]; exact h1, by rw [f.1]; exact h2, by rw [f.1]; exact h3, by rw [f.1]; exact h4, ⟨h5, h6, h7⟩, fun i hi => ?_⟩
  obtain ⟨y1, y2, y3, y4⟩ := h8 i hi
  exact ⟨y1, by rw [(e ka h5).1]; exact y2, by rw [(e kb h6).2]; exact y3, by rw [(e kc h7).2]; exact y4⟩
theorem RxA.fr (h : RxA sh n z t c f kd hi lo) (fr : FrR z z') : RxA sh n z' t c f kd hi lo := by
  obtain ⟨k9, k0, k1, k2, k3, ⟨a1, a2, a3, a4, a5⟩, ⟨b1, b2, b3, b4, b5, b6, b7, b8, b9, b10⟩, c1, c2, c3, c4⟩ := h
  refine ⟨k9, k0, k1, k2, k3, by rw [fr.1]; exact ⟨a1, a2, a3, a4, a5⟩, ⟨b1, b2, b3, b4, b5, b6, b7, b8, b9, b10⟩, c1, by rw [(fr.2.1 k9 b1 b2).1]; exact c2, by rw [(fr.2.1 k0 b3 b4).1]; exact c3, fun i hi => ?_⟩
  obtain ⟨y1, y2, y3, y4⟩ := c4 i hi
  exact ⟨y1, by rw [(fr.2.1 k1 b5 b6).1]; exact y2, by rw [(fr.2.1 k2 b7 b8).2]; exact y3, by rw [(fr.2.1 k3 b9 b10).2]; exact y4⟩
/-- the class's arguments -/
theorem cargs (hc : c ≤ 8) (hk : ∀ i, i < c → 1 ≤ kd i ∧ kd i ≤ 5) : ∀ r p fuel z, p + r = c → r < fuel → CM sh n z pk kt (agH 1 p kd hi lo) (1 + p) sl0 (frA u f p ps ts) cs (fun _ k => k + 1) 1 g lim → TxA sh n z kt c kd hi lo → ∃ z', fn_X4_run_L75 F sh n 87 fuel z (nI p) = fn_X4_run_L134 F sh n 87 F z' 0 ∧ CM sh n z' pk kt (agH 1 c kd hi lo) (1 + c) sl0 (frA u f c ps ts) cs (fun _ k => k + 1) 1 g lim ∧ FrC z z' := by
  intro r
  induction r with
  | zero =>
    intro p fuel z hp hf h tx
    obtain ⟨fl, rfl⟩ : ∃ k, fuel = k + 1 := ⟨fuel - 1, by omega⟩
    have : p = c := by omega
    subst this
    refine ⟨z, ?_, h, FrC.rfl'⟩
    obtain ⟨t1, t2, t3, t4⟩ := h.2.2.2.2.1
    obtain ⟨ka, kb, kc, h1, _⟩ := tx
    show lnk (z.2.2 87 13) _ = _
    rw [t1, lnk_s, t2, grd_true, h1, if_pos (Int32.le_refl _)]
  | succ r ih =>
    intro p fuel z hp hf h tx
    obtain ⟨fl, rfl⟩ : ∃ k, fuel = k + 1 := ⟨fuel - 1, by omega⟩
    have hkp := hk p (by omega)
    obtain ⟨t1, t2, t3, t4⟩ := h.2.2.2.2.1
    have tx0 := tx
    obtain ⟨ka, kb, kc, h1, h2, h3, h4, ⟨h5, h6, h7⟩, h8⟩ := tx
    obtain ⟨⟨y1, y2, y3⟩, y4, y5, y6⟩ := h8 p (by omega)
    obtain ⟨m1, m2, m3⟩ := h.arg (F := F) (k := kd p) (x := hi p) (y := lo p) (by omega) (by omega) (by omega) (by unfold inn; omega) (by show p + 1 = 1 + p; omega)
    rw [agH_up] at m2
    obtain ⟨z', i1, i2, i3⟩ := ih (p + 1) fl _ (by omega) (by omega) (by rw [Nat.add_assoc] at m2; exact m2) (tx0.fc t3 m3)
    refine ⟨z', ?_, i2, m3.trans i3⟩
    have nle : ¬ nI c ≤ nI p := fun q => by have := (nI_leI (show c < 2 ^ 31 by omega) (show p < 2 ^ 31 by omega)).mp q; omega
    have o102 : okA sh n 102 101 (nI p) = true := by rw [lay_a h.1 102 101 1280 (by decide) rfl]; exact okI_nI (by omega) (by omega)
    have L := h.1
    show lnk (z.2.2 87 13) _ = _
    rw [t1, lnk_s, t2, grd_true, h1, if_neg nle, L.2.2 87 10 102 rfl, lnk_s, L.2.2 87 1 88 rfl, lnk_s, lnk_s, t2, grd_true, h2, lnk_s, y1, grd_true, lnk_s, t2, grd_true, h3, lnk_s, y2, grd_true, lnk_s, t2, grd_true, h4, lnk_s, y3, grd_true, (b_heap L).1, grd_true, nI_clamp (by omega), y4, y5, y6, m1, cal_s, o102, grd_true, lt_t, nI_1]
    exact i1
end
