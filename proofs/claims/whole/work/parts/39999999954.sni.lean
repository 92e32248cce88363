/-! THE REFERENCE'S MACHINE: a call's beginning, as a whole -/
def ak0 (sd b : Int64) (th : Bool) (md : Nat) : Nat → Ask := fun j => if j = 0 then (1, sd, 0, b, th, 0) else (2, lN md, 0, 0, false, 0)
section
variable {F n : Nat} {sh : Nat → Nat × Nat} {z z' : St} {H : Hp} {m : Nat} {na : Nat} {ak : Nat → Ask} {g lim : Nat} {nc nr : Nat} {ac : Nat → Int64 × Int64 × Int64} {rs : Nat → Int64 × Nat × Hp × Nat} {u f c t md : Nat} {kd : Nat → Nat} {hi lo : Nat → Int64} {sd : Int64}
theorem RP.setB (h : RP sh n z H m na ak g lim) {j : Nat} (hj : j < na) (h3 : (ak j).1 ≠ 3) (b : Int64) : RP sh n (sl z 388 j b) H m na (upA ak j ((ak j).1, (ak j).2.1, (ak j).2.2.1, b, (ak j).2.2.2.2.1, (ak j).2.2.2.2.2)) g lim ∧ FrR z (sl z 388 j b) := by
  obtain ⟨hL, hr, hM, _, ⟨a1, a2, a3⟩, g1, g2, g3, g4⟩ := h
  have key : ∀ k, k ≠ 388 → (sl z 388 j b).2.1 k = z.2.1 k := fun k hk => by funext i; simp [sl_2, hk]
  refine ⟨⟨hL.of rfl, hr, hM.fr (fun _ _ _ => rfl) (fun k a b => key k (by omega)), trivial, ⟨a1, a2, fun i hi => ?_⟩, g1, g2, g3, g4⟩, ⟨rfl, fun k k1 k2 => ⟨rfl, key k (fun e => k2 (by rw [e]; right; right; omega))⟩, fun i _ => ⟨rfl, by rw [key 337 (by decide)]⟩⟩⟩
  obtain ⟨y1, y2, y3, y4, y5, y6⟩ := a3 i hi
  by_cases q : i = j
  · subst q
    rw [upA_s]
    exact ⟨y1, by rw [key 386 (by decide)]; exact y2, y3, by simp [sl_2], y5, fun e => absurd e h3⟩
  · rw [upA_n q]
    exact ⟨y1, by rw [key 386 (by decide)]; exact y2, y3, by simp [sl_2, q]; exact y4, y5, y6⟩
theorem call_r (hF : 300 ≤ F) (hL : Lay sh n z) (hr : Run z) (rl : RLg z nc ac nr rs) (h26 : z.1 337 26 = nI 0) (h25 : z.1 337 25 = nI lim) (hl : lim ≤ 20000) (h24 : z.2.1 337 24 = sd) (tx : RxA sh n z t c f kd hi lo) {k8 : Nat} (m1 : z.2.2 337 58 = some k8) (m2 : k8 ≠ 337) (m3 : ¬ mcl k8) (m4 : okA sh n k8 101 (nI t) = true) (m5 : z.1 k8 t = nI md) (hmd : md < 65536) (hc : c ≤ 8) (ht : t < 2 ^ 20) (hk : ∀ i, i < c → 1 ≤ kd i ∧ kd i ≤ 5) {x2 : Int32} : ∃ z', fn_X18_callOne F sh n z 337 (nI t) (nI u) x2 = fn_X18_callOne_L141 F sh n 337 (nI t) F z' ∧ RM sh n z' (agH 0 c kd hi lo) c (frA u f c (fun k => k) kd) 1 2 (ak0 sd (acB nc ac sd - lN lim) (acT nc ac sd) md) 0 lim ∧ FrR z z' := by
  have dead : ∀ i, agH 0 0 kd hi lo i = (0, 0, 0, []) := fun i => by unfold agH; rw [if_neg (by omega)]
  have k1 : ∀ k, k ≠ 349 → k ≠ 337 → (si (si z 349 5 0) 337 29 0).1 k = z.1 k := fun k a b => by funext j; simp [si_1, a, b]
  have k2 : ∀ j, j ≠ 29 → (si (si z 349 5 0) 337 29 0).1 337 j = z.1 337 j := fun j a => by simp [si_1, a]
  have f0 : FrR z (si (si z 349 5 0) 337 29 0) := ⟨rfl, fun k a b => ⟨k1 k (fun e => b (by rw [e]; left; omega)) a, rfl⟩, fun j a => ⟨k2 j (fun e => a (by rw [e]; simp [mfl])), rfl⟩⟩
  have P0 : RP sh n (si (si z 349 5 0) 337 29 0) (agH 0 0 kd hi lo) 0 0 (fun _ => (2, lN md, 0, 0, false, 0)) 0 lim := ⟨hL.of rfl, by unfold Run; rw [k2 27 (by decide)]; exact hr, ⟨by simp [si_1]; rfl, by omega, fun i q => by rw [dead] at q; exact absurd rfl q⟩, trivial, ⟨by simp [si_1]; rfl, by omega, fun j hj => by omega⟩, by rw [k2 26 (by decide)]; exact h26, by rw [k2 25 (by decide)]; exact h25, by omega, hl⟩
  obtain ⟨z1, q1, P1, f1⟩ := P0.ask1 (F := F) hF (rl.keep f0) (fun j hj => by omega) (a := sd) rfl (by omega)
  obtain ⟨P2, f2⟩ := P1.setB (j := 0) (by omega) (by rw [upA_s]; simp) (acB nc ac sd - lN lim)
  have e2 : upA (upA (fun _ => (2, lN md, 0, 0, false, 0)) 0 (1, sd, 0, acB nc ac sd, acT nc ac sd, 0)) 0 ((upA (fun _ => (2, lN md, 0, 0, false, 0)) 0 (1, sd, 0, acB nc ac sd, acT nc ac sd, 0) 0).1, (upA (fun _ => (2, lN md, 0, 0, false, 0)) 0 (1, sd, 0, acB nc ac sd, acT nc ac sd, 0) 0).2.1, (upA (fun _ => (2, lN md, 0, 0, false, 0)) 0 (1, sd, 0, acB nc ac sd, acT nc ac sd, 0) 0).2.2.1, acB nc ac sd - lN lim, (upA (fun _ => (2, lN md, 0, 0, false, 0)) 0 (1, sd, 0, acB nc ac sd, acT nc ac sd, 0) 0).2.2.2.2.1, (upA (fun _ => (2, lN md, 0, 0, false, 0)) 0 (1, sd, 0, acB nc ac sd, acT nc ac sd, 0) 0).2.2.2.2.2) = ak0 sd (acB nc ac sd - lN lim) (acT nc ac sd) md := by
    funext j
    by_cases q : j = 0
    · subst q; rw [upA_s, upA_s]; rfl
    · rw [upA_n q, upA_n q]; unfold ak0; rw [if_neg q]
  rw [e2] at P2
  have fk : fdK (0 + 1) (ak0 sd (acB nc ac sd - lN lim) (acT nc ac sd) md) 2 (lN md) 0 (0 + 1) 0 = none := by
    unfold fdK
    rw [fd_1, if_neg (by simp [ak0])]
    rfl
  obtain ⟨z3, q3, P3, f3⟩ := P2.ask0 (F := F) hF ((rl.keep (f0.trans f1)).keep f2) (fun j hj => by
    have e : j = 0 := by omega
    subst e
    exact ⟨by show 1 < 2 ^ 31; omega, by show 0 < 2 ^ 31; omega⟩) (s := 2) (k := 0) (a := lN md) (by omega) (.inl rfl) fk (by omega)
  have e3 : upA (ak0 sd (acB nc ac sd - lN lim) (acT nc ac sd) md) (0 + 1) (2, lN md, 0, 0, false, 0) = ak0 sd (acB nc ac sd - lN lim) (acT nc ac sd) md := by
    funext j
    by_cases q : j = 0 + 1
    · subst q; rw [upA_s]; rfl
    · rw [upA_n q]
  rw [e3] at P3
  have j1 : ∀ j, j ≠ 36 → j ≠ 45 → (si (si z3 337 36 0) 337 45 0).1 337 j = z3.1 337 j := fun j a b => by simp [si_1, a, b]
  have j2 : ∀ k, k ≠ 337 → (si (si z3 337 36 0) 337 45 0).1 k = z3.1 k := fun k a => by funext j; simp [si_1, a]
  have f4 : FrR z3 (si (si z3 337 36 0) 337 45 0) := ⟨rfl, fun k a b => ⟨j2 k a, rfl⟩, fun j a => ⟨j1 j (fun e => a (by rw [e]; simp [mfl])) (fun e => a (by rw [e]; simp [mfl])), rfl⟩⟩
  obtain ⟨p1, p2, p3, _, p5, p6, p7, p8, p9⟩ := P3
  have B4 : RB sh n (si (si z3 337 36 0) 337 45 0) (agH 0 0 kd hi lo) 0 0 (fun k => k) 2 (ak0 sd (acB nc ac sd - lN lim) (acT nc ac sd) md) 0 lim := ⟨p1.of rfl, by unfold Run; rw [j1 27 (by decide) (by decide)]; exact p2, p3.fr (fun k a b => j2 k (by omega)) (fun _ _ _ => rfl), ⟨by simp [si_1], by simp [si_1]; rfl, by omega, fun k hk => by omega⟩, p5.of (j1 29 (by decide) (by decide)) (fun k a b => ⟨j2 k (by omega), rfl⟩), by rw [j1 26 (by decide) (by decide)]; exact p6, by rw [j1 25 (by decide) (by decide)]; exact p7, p8, p9⟩
  have fA := (((f0.trans f1).trans f2).trans f3).trans f4
  obtain ⟨z5, q5, B5, f5⟩ := rargs (F := F) hc ht hk (x1 := nI u) c 0 F _ (by omega) (by omega) B4 (tx.fr fA)
  obtain ⟨z6, q6, M6, f6⟩ := B5.enter (F := F) hF (u := u) (f := f) kd
  refine ⟨z6, ?_, M6, (fA.trans f5).trans f6⟩
  have b1 := (P1.2.2.2.2.1.2.2 0 (by omega)).2.2.2.1
  rw [upA_s] at b1
  have l1 := P1.2.2.2.2.2.2.1
  have L1 := P1.1
  have o388 : okA sh n 388 102 0 = true := by rw [lay_a hL 388 102 24 (by decide) rfl]; decide
  have m5' : (sl z1 388 0 (acB nc ac sd - lN lim)).1 k8 t = nI md := by rw [((f0.trans f1).trans f2).2.1 k8 m2 m3 |>.1]; exact m5
  have m1' : (sl z1 388 0 (acB nc ac sd - lN lim)).2.2 337 58 = some k8 := by rw [((f0.trans f1).trans f2).1]; exact m1
  unfold fn_X18_callOne
  rw [(b_model hL).1, grd_true, hL.2.2 337 15 349 rfl, lnk_s, (b_trees hL).1, grd_true, lt_t, lt_t, show (si (si z 349 5 0) 337 29 0).2.1 337 24 = sd from h24, q1, cal_s, L1.2.2 337 33 388 rfl, lnk_s, o388, grd_true, grd_true, show (0 : Int32).toNatClampNeg = 0 from rfl, b1, l1, nI_l (by omega), lt_t, m1', lnk_s, m4, grd_true, nI_clamp (by omega), m5', nI_l (by omega)]
  have q3' : fn_X18_ask F sh n (sl z1 388 0 (acB nc ac sd - lN lim)) 337 2 (lN md) 0 = some (z3, nI (0 + 1)) := q3
  rw [q3', cal_s, lt_t, lt_t]
  have q5' : fn_X18_callOne_L65 F sh n 337 (nI t) (nI u) F (si (si z3 337 36 0) 337 45 0) 0 = _ := q5
  rw [q5', q6, cal_s]
end
