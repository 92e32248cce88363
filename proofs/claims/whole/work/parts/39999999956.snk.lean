/-! BOTH MACHINES SIDE BY SIDE: a call from its beginning to its last instruction -/
def DyY (F : Nat) (sh : Nat → Nat × Nat) (n : Nat) (z0 y0 : St) (kr pk : Nat → Nat) (Ms : Nat → Option Md) : Prop := ∀ u U, Ms u = some U → z0.2.2 341 u = some (kr u) ∧ (∀ z', FrB z0 z' → RUn F sh n z' (kr u) U ∧ fn_X18_findModule F sh n z' 337 (nI U.1.1) = some (z', nI u)) ∧ ∃ pl ab, ∀ z', FrY y0 z' → CUn F sh n z' (pk u) U pl ab ∧ fn_X7_findProgram F sh n z' 3 (nI U.1.1) = some (z', some (pk u))
section
variable {E : Ev} {ub : Nat × Nat} {F n : Nat} {sh : Nat → Nat × Nat} {pk kr : Nat → Nat} {kt : Nat} {lim : Nat} {z y y1 : St} {Ms : Nat → Option Md} {Ce : Nat → Nat → Nat → Lks}
variable {SF : Nat → List Nat} {sd : Int64} {nc nr nrc : Nat} {ac acC : Nat → Int64 × Int64 × Int64} {rs : Nat → Int64 × Nat × Hp × Nat} {so : Nat → Option Rsc} {u f c t : Nat} {kd : Nat → Nat} {hi lo : Nat → Int64} {U : Md} {ws : Nat → Int64 → Nat → Bool}
theorem DyY.x (h : DyY F sh n z y kr pk Ms) (f : FrY y y1) : Dy F sh n z y1 kr pk Ms := fun u U e => by
  obtain ⟨h1, h2, pl, ab, h3⟩ := h u U e
  exact ⟨h1, h2, pl, ab, fun z' g => h3 z' (f.trans g.y)⟩
theorem sT_1 {id : Nat → Nat} {k : Nat} : sT id [k] = k := rfl
/-- frames at a call's beginning -/
theorem Fi.start (wd : Wld E Ms Ce) (eU : Ms u = some U) (hf : f < fsOf U) (tl : (tksOf U f).length = c) (tk : ∀ i, i < c → (tksOf U f).getD i [] = [kd i]) (hk : ∀ i, i < c → 1 ≤ kd i ∧ kd i ≤ 5) {b : Int64} {th : Bool} : Fi (u, f) Ms Ce (frA u f c (fun k => k) kd) 1 2 (ak0 sd b th U.1.1) := by
  obtain ⟨cert, _⟩ := (wd u U eU).2.2.2.2.2.1 f hf
  have ll : c ≤ (locOf U f).length := by
    unfold locOf
    rw [List.length_append]
    have : (tksOf U f).length = c := tl
    unfold tksOf at this
    omega
  have lg : ∀ k, k < c → (locOf U f).getD k [] = [kd k] := fun k hk => by
    rw [← tk k hk]
    have : (tksOf U f).length = c := tl
    unfold tksOf at this
    unfold locOf tksOf
    rw [List.getD_eq_getElem?_getD, List.getD_eq_getElem?_getD, List.getElem?_append_left (by omega)]
  have nr : ∀ k, k < c → isR [kd k] = false := fun k hk2 => by
    have := hk k hk2
    have p : PT 0 [kd k] := ⟨this.1, this.2⟩
    exact p.hd.2
  refine ⟨⟨U, eU, hf, cert.1, ⟨cert.2.1.symm, by show (Ce u f 0).1.1 ≤ 64; rw [cert.2.1]; omega, fun k hk => absurd (show k < (Ce u f 0).1.1 from hk) (by rw [cert.2.1]; omega), fun k hk2 => ⟨fun q => ?_, fun q s hs => ?_⟩, fun k hk2 => ?_⟩⟩, fun d hd => by omega, fun d hd V hV => ⟨1, by omega, rfl, ?_, rfl⟩, rfl, rfl⟩
  · have kc : k < c := by
      have := (cert.2.2.1 k hk2).1
      have q' : (Ce u f 0).2.1 k = true := q
      rw [this, tl] at q'
      simpa using q'
    refine ⟨(k, 0, kd k, 0, false), if_pos kc, ?_⟩
    show SMt U.2.2.2.1 (k, 0, kd k, 0, false) ((locOf U f).getD k [], (Ce u f 0).2.2.1 k, (Ce u f 0).2.2.2 k)
    rw [lg k kc]
    refine ⟨?_, rfl, fun r => ?_⟩
    · show 0 = sR [kd k]
      rw [sR, if_neg (by rw [nr k kc]; simp)]
    · have r' : isR [kd k] = true := r
      rw [nr k kc] at r'
      exact absurd r' (by simp)
  · have kc : ¬ k < c := by
      have := (cert.2.2.1 k hk2).1
      have q' : (Ce u f 0).2.1 k = false := q
      rw [this, tl] at q'
      simpa using q'
    have hs' : (if k < c then some ((k, 0, kd k, 0, false) : Sl) else none) = some s := hs
    rw [if_neg kc] at hs'
    exact absurd hs' (by simp)
  · show (if k < c then some ((k, 0, kd k, 0, false) : Sl) else none) = none
    have hk3 : (locOf U f).length ≤ k := hk2
    rw [if_neg (by omega)]
  · have hV' : Ms u = some V := hV
    rw [eU] at hV'
    have : U = V := by simpa using hV'
    rw [← this]; rfl
/-- a call, from its beginning to its last instruction -/
theorem call_sim (hF : 20002 ≤ F) (W : ∀ z, Lay sh n z → WM sh n z.2.2 368 369 370 371) (hE : EvOk E) (hA : EvA E) (hC : E.2.1 256 ≤ 38 ∧ E.2.1 11 ≤ 38) (hsl : ¬ y.1 88 6 + 1 < y.1 88 6) (wd : Wld E Ms Ce) (lw : LgW pk Ms) (dy : DyY F sh n z y kr pk Ms) (rl : RLg z nc ac nr rs) (cg : CLg y nc acC nrc so) (lg : LgR E SF sd nc ac acC nr rs so ws)
    (hL : Lay sh n z) (hr : Run z) (h26 : z.1 337 26 = nI 0) (h25 : z.1 337 25 = nI lim) (hl : lim ≤ 20000) (h24 : z.2.1 337 24 = sd) (rx : RxA sh n z t c f kd hi lo) {k8 : Nat} (m1 : z.2.2 337 58 = some k8) (m2 : k8 ≠ 337) (m3 : ¬ mcl k8) (m4 : okA sh n k8 101 (nI t) = true) (m5 : z.1 k8 t = nI U.1.1)
    (hLc : Lay sh n y) (ok : okO sh n kt 8 = true) (hkt : 113 ≤ kt) (t3 : y.1 kt 3 = nI lim) (t1 : y.2.1 kt 1 = sd) (t4 : y.1 kt 4 = nI U.1.1) (t5 : y.1 kt 5 = nI f) (tx : TxA sh n y kt c kd hi lo)
    (hB : acB nc acC sd = acB nc ac sd - lN lim) (hT : acT nc acC sd = acT nc ac sd) (eU : Ms u = some U) (hf : f < fsOf U) (tl : (tksOf U f).length = c) (tk : ∀ i, i < c → (tksOf U f).getD i [] = [kd i]) (ht : t < 2 ^ 20) (hk : ∀ i, i < c → 1 ≤ kd i ∧ kd i ≤ 5 ∧ LTm E (kd i) (kd i, hi i, lo i, []) []) (hld : N (acB nc ac sd - lN lim) ≤ E.2.2.2.2 1 sd 0) (hth : acT nc ac sd = true) {x2 : Int32} :
    ∃ zr' zc', fn_X18_callOne F sh n z 337 (nI t) (nI u) x2 = aftR F sh n (nI t) zr' ∧ fn_X4_run F sh n y 87 kt = fn_X4_run_B186 F sh n 87 zc' ∧ FrB z zr' ∧ FrY y zc' ∧ zc'.2.2 87 13 = some kt ∧ ((∃ o c g', (o = 1 ∨ o = 2) ∧ RE sh n zr' o c g' ∧ CE sh n zc' o c g' (y.1 88 6)) ∨ ∃ na' ak' g', AkL 2 (ak0 sd (acB nc ac sd - lN lim) (acT nc ac sd) U.1.1) 0 na' ak' g' ∧ Done (u, f) E sh n pk (y.1 88 6) Ms zr' zc' na' ak' g' ws) := by
  obtain ⟨v1, v2, ⟨v3, v3b, v3c, v3d⟩, v4, v5, v6, v7⟩ := wd u U eU
  have hc : c ≤ 8 := by rw [← tl]; exact (v5 f (by omega)).1
  have hk2 : ∀ i, i < c → 1 ≤ kd i ∧ kd i ≤ 5 := fun i hi => ⟨(hk i hi).1, (hk i hi).2.1⟩
  obtain ⟨_, _, pl, ab, dd⟩ := dy u U eU
  obtain ⟨z1, a1, a2, a3⟩ := call_r (F := F) (u := u) (x2 := x2) (by omega) hL hr rl h26 h25 hl h24 rx m1 m2 m3 m4 m5 v3b hc ht hk2
  obtain ⟨y1, cn, b1, b2, b3, b4⟩ := call_c (F := F) (pk := pk) (u := u) (by omega) hLc cg ok hkt t3 hl t1 t4 t5 v3b tx (fun z' g => (dd z' g).2) (dd y ⟨⟨fun _ _ _ _ => rfl, rfl⟩, fun _ _ => ⟨rfl, rfl⟩⟩).1.1 hc hk2 (lg.w1 sd)
  rw [hB, hT] at b3
  have b2' : CM sh n y1 pk kt (agH 1 c kd hi lo) (c + 1) (y.1 88 6) (frA u f c (fun k => k) kd) (fun _ _ => 0) (fun _ k => k + 1) 1 0 lim := by rw [Nat.add_comm c 1]; exact b2
  have hbs : bS (ak0 sd (acB nc ac sd - lN lim) (acT nc ac sd) U.1.1) 2 ≤ lS E (ak0 sd (acB nc ac sd - lN lim) (acT nc ac sd) U.1.1) 2 := by
    have e1 : bS (ak0 sd (acB nc ac sd - lN lim) (acT nc ac sd) U.1.1) 2 = 0 + N (acB nc ac sd - lN lim) + 0 := rfl
    have e2 : lS E (ak0 sd (acB nc ac sd - lN lim) (acT nc ac sd) U.1.1) 2 = 0 + E.2.2.2.2 1 sd 0 + E.2.2.2.2 2 (lN U.1.1) 0 := rfl
    omega
  have hac : AcOk E 2 (ak0 sd (acB nc ac sd - lN lim) (acT nc ac sd) U.1.1) := fun j hj h1 _ => by
    by_cases q : j = 0
    · subst q; exact hth
    · unfold ak0 at h1; rw [if_neg q] at h1; exact absurd (show (2 : Nat) = 1 from h1) (by decide)
  have S := Sm.start (E := E) hk v2.1 (fun j hj => by
    by_cases q : j = 0
    · subst q; show (1 : Nat) ≠ 3; decide
    · unfold ak0; rw [if_neg q]; show (2 : Nat) ≠ 3; decide) hc hbs hac a2 b2' b3
  obtain ⟨z2, y2, c1, c2, c3, c4, c5⟩ := run_sim (x0 := nI t) (SF := SF) (sl0 := y.1 88 6) (z0 := z1) (y0 := y1) (by omega) W hE hA hC hsl wd lw (show Dy F sh n z1 y1 kr pk Ms from fun u' U' e => by
    obtain ⟨g1, g2, g3⟩ := (dy.x b4) u' U' e
    exact ⟨by rw [a3.1]; exact g1, fun z' g => g2 z' (a3.b.trans g), g3⟩) (rl.keep a3) (cg.of (fun k k1 k2 => b4.2 k (by omega))) lg (by rw [(a3.2.2 24 (by unfold mfl; omega)).2, h24, (b4.2 kt (by omega)).2, t1]) lim z1 y1 _ _ _ _ _ _ _ _ _ _ _ _ _ _ _ 0 F F (by omega) FrB.rfl' FrX.rfl' S (Fi.start wd eU hf tl tk hk2) ⟨by omega, rfl, rfl⟩ (Nat.le_refl _) (by omega) (by omega)
  refine ⟨z2, y2, a1.trans c1, b1.trans c2, a3.b.trans c3, b4.trans c4.y, by rw [c4.1 87 (by decide)]; exact b2.2.2.2.2.1.1, c5⟩
end
