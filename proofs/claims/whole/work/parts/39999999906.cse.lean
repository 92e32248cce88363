/-! THE CLASS'S MACHINE: resources (47 .. 51) -/
/-- what a step leaves alone, as a whole -/
def FrX (z z' : St) : Prop := (∀ k, k ≠ 98 → z'.2.2 k = z.2.2 k) ∧ (∀ k, ¬ (87 ≤ k ∧ k ≤ 112) → z'.1 k = z.1 k ∧ z'.2.1 k = z.2.1 k) ∧ (∀ j, j < 12 ∨ 17 < j → z'.1 87 j = z.1 87 j) ∧ ∀ j, j ≠ 17 → z'.2.1 87 j = z.2.1 87 j
theorem FrX.rfl' {z : St} : FrX z z := ⟨fun _ _ => rfl, fun _ _ => ⟨rfl, rfl⟩, fun _ _ => rfl, fun _ _ => rfl⟩
theorem FrX.trans {z z' z'' : St} (h : FrX z z') (g : FrX z' z'') : FrX z z'' := ⟨fun k a => (g.1 k a).trans (h.1 k a), fun k a => ⟨(g.2.1 k a).1.trans (h.2.1 k a).1, (g.2.1 k a).2.trans (h.2.1 k a).2⟩, fun j a => (g.2.2.1 j a).trans (h.2.2.1 j a), fun j a => (g.2.2.2 j a).trans (h.2.2.2 j a)⟩
theorem FrD.x {z z' : St} (h : FrD z z') : FrX z z' := ⟨h.1, fun k hk => h.2.1 k (by omega), h.2.2⟩
theorem FrC.x {z z' : St} (h : FrC z z') : FrX z z' := h.d.x
theorem FrJ.x {z z' : St} (h : FrJ z z') : FrX z z' := ⟨fun k _ => by rw [h.1], fun k hk => h.2 k (by omega) (by omega), fun j _ => by rw [(h.2 87 (by omega) (by omega)).1], fun j _ => by rw [(h.2 87 (by omega) (by omega)).2]⟩
section
variable {F n : Nat} {sh : Nat → Nat × Nat} {z z' : St} {pk : Nat → Nat} {kt : Nat} {H : Hp} {m : Nat} {sl0 : Int32} {fr : Nat → Fm} {cs cl : Nat → Nat → Nat} {nf g lim na : Nat} {ak : Nat → Ask} {cn : Nat → Nat} {ws : Nat → Int64 → Nat → Bool}
theorem CM.jr (h : CM sh n z pk kt H m sl0 fr cs cl nf g lim) (f : FrJ z z') {H' : Hp} {m' : Nat} (hH : HC z' H' m' sl0) : CM sh n z' pk kt H' m' sl0 fr cs cl nf g lim := by
  have kk := h.2.2.2.2.1.2.2.1
  exact h.mov f.1 (fun j _ _ => by rw [(f.2 87 (by omega) (by omega)).1]) (by rw [(f.2 87 (by omega) (by omega)).2]) (f.2 kt (by omega) (by omega)).1 hH (h.2.2.1.of (by rw [(f.2 87 (by omega) (by omega)).1]) (fun k a b => (f.2 k (by omega) (by omega)).1) (by rw [f.1]))
theorem CJ.fc (h : CJ z na ak cn ws) (f : FrC z z') : CJ z' na ak cn ws := h.of (fun k a b => f.2.1 k (by omega) (by omega) (by omega))
theorem CJ.fd (h : CJ z na ak cn ws) (f : FrD z z') : CJ z' na ak cn ws := h.of (fun k a b => f.2.1 k (by omega))
def akT (x : Ask) (b : Bool) (t : Nat) : Ask := (x.1, x.2.1, x.2.2.1, x.2.2.2.1, b, t)
theorem CJ.set (h : CJ z na ak cn ws) {j : Nat} (hj : j < na) (h3 : (ak j).1 = 3) {b : Bool} {t c : Nat} (e0 : z'.1 104 7 = z.1 104 7) (e1 : ∀ k i, 105 ≤ k → k ≤ 112 → k ≠ 110 ∧ k ≠ 112 ∨ i ≠ j → z'.1 k i = z.1 k i ∧ z'.2.1 k i = z.2.1 k i) (r1 : z'.1 110 j = bI b) (r2 : b = true → z'.1 112 j = nI c) : CJ z' na (upA ak j (akT (ak j) b t)) (fun e => if e = j then c else cn e) ws := by
  obtain ⟨⟨a1, a0⟩, a2, a3⟩ := h
  refine ⟨⟨by rw [e0]; exact a1, a0.up rfl rfl rfl⟩, a2, fun i hi => ?_⟩
  obtain ⟨b1, b2, ⟨b3, b4, b5⟩, b6, b7, b8, b9⟩ := a3 i hi
  by_cases q : i = j
  · subst q
    have : upA ak i (akT (ak i) b t) i = akT (ak i) b t := by simp [upA]
    rw [this]
    simp only [if_true]
    refine ⟨b1, (e1 105 i (by omega) (by omega) (by omega)).1.trans b2, ⟨(e1 106 i (by omega) (by omega) (by omega)).2.trans b3, (e1 107 i (by omega) (by omega) (by omega)).1.trans b4, (e1 108 i (by omega) (by omega) (by omega)).1.trans b5⟩, (e1 109 i (by omega) (by omega) (by omega)).1.trans b6, ?_, fun x => absurd (h3.symm.trans x) (by decide), fun _ x => r2 x⟩
    rw [r1]
    show bI b = bI (if (ak i).1 = 2 then true else b)
    rw [if_neg (by omega)]
  · have : upA ak j (akT (ak j) b t) i = ak i := by simp [upA, q]
    rw [this]
    simp only [q, if_false]
    refine ⟨b1, (e1 105 i (by omega) (by omega) (by omega)).1.trans b2, ⟨(e1 106 i (by omega) (by omega) (by omega)).2.trans b3, (e1 107 i (by omega) (by omega) (by omega)).1.trans b4, (e1 108 i (by omega) (by omega) (by omega)).1.trans b5⟩, (e1 109 i (by omega) (by omega) (by omega)).1.trans b6, (e1 110 i (by omega) (by omega) (by omega)).1.trans b7, fun x => ⟨(e1 111 i (by omega) (by omega) (by omega)).2.trans (b8 x).1, (b8 x).2⟩, fun x y => (e1 112 i (by omega) (by omega) (by omega)).1.trans (b9 x y)⟩
/-- the address, then a place is asked for -/
theorem CM.keep0 (h : CM sh n z pk kt H m sl0 fr cs cl nf g lim) {o md st v : Nat} (ho : 47 ≤ o) (ho2 : o ≤ 51) (h1 : 1 ≤ (fr (nf - 1)).2.2.1.1) (ev : cs (nf - 1) ((fr (nf - 1)).2.2.1.1 - 1) = v) (hv : (H v).1 = if o = 47 then 6 else 5) : ∃ z1, fn_X4_keep F sh n z 87 (nI o) (nI md) (nI st) = fn_X4_keep_B44 F sh n 87 (nI md) (nI st) (nI o) (nI v) z1 (if o = 47 then z.2.1 kt 1 else (H v).2.2.1) ∧ CM sh n z1 pk kt H m sl0 (setF fr (nf - 1) (setH (fr (nf - 1)) ((fr (nf - 1)).2.2.1.1 - 1))) cs cl nf g lim ∧ FrC z z1 := by
  obtain ⟨z1, p1, p2, p3⟩ := h.popOf (F := F) h1 (k := if o = 47 then 6 else 5) (x := nI (if o = 47 then 6 else 5)) rfl (by rw [ev]; exact hv) (by split <;> omega)
  rw [ev] at p1
  refine ⟨z1, ?_, p2, p3⟩
  obtain ⟨t1, t2, t3, t4⟩ := p2.2.2.2.2.1
  unfold fn_X4_keep
  by_cases c : o = 47
  · subst c
    rw [if_pos rfl] at p1
    have p1' : fn_X4_popOf F sh n z 87 6 = some (z1, nI v) := p1
    rw [if_pos (by rfl)]
    unfold fn_X4_keep_B13
    rw [(b_mach h.1).1, grd_true, p1', cal_s]
    have e1 : z1.2.1 kt 1 = z.2.1 kt 1 := by rw [(p3.2.1 kt (by omega) (by omega) (by omega)).2]
    rw [if_pos (by rfl), t1, lnk_s, t2, grd_true, e1]
    rfl
  · have n47 : ¬ nI o = 47 := fun q => c ((nI_ij (a := o) (b := 47) (by omega) (by omega)).mp q)
    rw [if_neg c] at hv p1
    have p1' : fn_X4_popOf F sh n z 87 5 = some (z1, nI v) := p1
    rw [if_neg n47]
    unfold fn_X4_keep_B13
    rw [(b_mach h.1).1, grd_true, p1', cal_s]
    have iv := p2.2.1.i1 (i := v) (by omega)
    have lv := p2.2.1.leaf (i := v) (by omega) (by unfold inn; omega)
    have ov : okA sh n 90 102 (nI v) = true := by rw [lay_a h.1 90 102 21600 (by decide) rfl]; exact iv.1
    have hp := b_heap p2.1
    rw [if_neg n47, p2.1.2.2 87 1 88 rfl, lnk_s, hp.1, grd_true, hp.2.2.1, lnk_s, ov, grd_true, iv.2, lv.2, if_neg c]
/-- one place too many -/
theorem CM.keepE (h : CM sh n z pk kt H m sl0 fr cs cl nf g lim) {z1 : St} {o md st v : Int32} {a : Int64} (hL : Lay sh n z1) (ask : fn_X2_ask F sh n z1 104 3 a md st = some (z, -1)) : ∃ z', fn_X4_keep_B44 F sh n 87 md st o v z1 a = some (z', ()) ∧ CE sh n z' 2 4 g sl0 ∧ FrC z z' := by
  obtain ⟨z2, p1, p2, p3⟩ := h.fin (F := F) 2 4
  refine ⟨z2, ?_, p2, p3⟩
  unfold fn_X4_keep_B44
  rw [hL.2.2 87 2 104 rfl, lnk_s, (b_jour hL).1, grd_true, ask, cal_s, if_neg (by decide), show (2 : Int32) = nI 2 from rfl, p1, cal_s]
theorem CM.keepN (h : CM sh n z pk kt H m sl0 fr cs cl nf g lim) (hJ : CJ z na ak cn ws) {z1 : St} {o j : Nat} {md st v : Int32} {a : Int64} (hL : Lay sh n z1) (hj : j < na) (h3 : (ak j).1 = 3) (ho : o = 47 ∨ o = 48 ∨ o = 50 ∨ o = 51) (ask : fn_X2_ask F sh n z1 104 3 a md st = some (z, nI j)) : ((ak j).2.2.2.2.1 = decide (o = 47) → ∃ z', fn_X4_keep_B44 F sh n 87 md st (nI o) v z1 a = some (z', ()) ∧ CE sh n z' 2 3 g sl0 ∧ FrC z z') ∧ ((ak j).2.2.2.2.1 ≠ decide (o = 47) → fn_X4_keep_B44 F sh n 87 md st (nI o) v z1 a = fn_X4_keep_B113 F sh n (nI o) 87 v (nI j) z) := by
  have n24 := hJ.2.1
  have e10 := (hJ.2.2 j hj).2.2.2.2.1
  rw [if_neg (by omega)] at e10
  have o10 : okA sh n 110 103 (nI j) = true := by rw [lay_a h.1 110 103 24 (by decide) rfl]; exact okI_nI (by omega) (by omega)
  have n49 : ¬ nI o = 49 := fun q => by have := (nI_ij (a := o) (b := 49) (by omega) (by omega)).mp q; omega
  have pos : (0 : Int32) ≤ nI j := nI_pos' (by omega)
  have E : fn_X4_keep_B44 F sh n 87 md st (nI o) v z1 a = fn_X4_keep_B101 F sh n z 110 (nI j) 87 (nI o) v z (bI (decide (o = 47))) := by
    unfold fn_X4_keep_B44
    rw [hL.2.2 87 2 104 rfl, lnk_s, (b_jour hL).1, grd_true, ask, cal_s, if_pos pos, if_neg n49, h.1.2.2 87 2 104 rfl, lnk_s, (b_jour hL).1, grd_true, h.1.2.2 104 8 110 rfl, lnk_s, o10, grd_true]
    by_cases c : o = 47
    · subst c; rw [if_pos (by rfl)]; rfl
    · have n47 : ¬ nI o = 47 := fun q => c ((nI_ij (a := o) (b := 47) (by omega) (by omega)).mp q)
      rw [if_neg n47]
      simp [c, bI]
  constructor
  · intro hq
    obtain ⟨z2, p1, p2, p3⟩ := h.fin (F := F) 2 3
    refine ⟨z2, ?_, p2, p3⟩
    rw [E]
    unfold fn_X4_keep_B101
    rw [nI_clamp (by omega), e10, if_pos (bI_eq.mpr hq), show (2 : Int32) = nI 2 from rfl, p1, cal_s]
  · intro hq
    rw [E]
    unfold fn_X4_keep_B101
    rw [nI_clamp (by omega), e10, if_neg (fun q => hq (bI_eq.mp q))]
theorem keep49 (h : CM sh n z pk kt H m sl0 fr cs cl nf g lim) {z1 : St} {j : Nat} {md st v : Int32} {a : Int64} (hL : Lay sh n z1) (hj : j < 24) (ask : fn_X2_ask F sh n z1 104 3 a md st = some (z, nI j)) : fn_X4_keep_B44 F sh n 87 md st 49 v z1 a = fn_X4_keep_B113 F sh n 49 87 v (nI j) z := by
  have pos : (0 : Int32) ≤ nI j := nI_pos' (by omega)
  unfold fn_X4_keep_B44
  rw [hL.2.2 87 2 104 rfl, lnk_s, (b_jour hL).1, grd_true, ask, cal_s, if_pos pos, if_pos rfl]
/-- 47 -/
theorem CM.k47 (hF : 300 ≤ F) (h : CM sh n z pk kt H m sl0 fr cs cl nf g lim) (hJ : CJ z na ak cn ws) {j v d : Nat} (hj : j < na) (h3 : (ak j).1 = 3) (t : Nat) (tr : Tr H d v) (hd : d ≤ 40) (hs : szA H d v < 2 ^ 20) : (g + (10 + szA H d v) ≤ lim → ∃ z', fn_X4_keep_B113 F sh n (nI 47) 87 (nI v) (nI j) z = some (z', ()) ∧ CM sh n z' pk kt H m sl0 fr cs cl nf (g + (10 + szA H d v)) lim ∧ CJ z' na (upA ak j (akT (ak j) true t)) (fun e => if e = j then v else cn e) ws ∧ FrX z z') ∧ (lim < g + (10 + szA H d v) → ∃ z', fn_X4_keep_B113 F sh n (nI 47) 87 (nI v) (nI j) z = some (z', ()) ∧ CE sh n z' 2 5 lim sl0 ∧ FrC z z') := by
  have n24 := hJ.2.1
  have sz := sizeOf_t (F := F) hF h.1 h.2.1 tr hd
  have sq := szB_q (H := H) d v
  have sb := szB_b (H := H) d v
  have l20 := h.2.2.2.2.2.2.2
  unfold Szq at sq
  have hp := b_heap h.1
  have E : fn_X4_keep_B113 F sh n (nI 47) 87 (nI v) (nI j) z = fn_X4_keep_B137 F sh n 87 (nI 47) (nI j) (nI v) z (nI (10 + szB H d v)) := by
    unfold fn_X4_keep_B113
    rw [if_pos (by rfl), h.1.2.2 87 1 88 rfl, lnk_s, hp.1, grd_true, sz, cal_s, show (10 : Int32) = nI 10 from rfl, nI_add]
  constructor
  · intro hg
    rw [show szB H d v = szA H d v by omega] at E
    obtain ⟨z1, p1, p2, p3⟩ := h.pay (F := F) hg
    have J1 := hJ.fc p3
    have f2 : FrJ z1 (si (si z1 110 j 1) 112 j (nI v)) := (FrJ.si (by omega)).trans (FrJ.si (by omega))
    have C2 := p2.jr f2 (p2.2.1.mv (fun k a b => ⟨by rw [si_ok (by omega), si_ok (by omega)], rfl⟩))
    have J2 : CJ (si (si z1 110 j 1) 112 j (nI v)) na (upA ak j (akT (ak j) true t)) (fun e => if e = j then v else cn e) ws := J1.set hj h3 (by rw [si_ok (by omega), si_ok (by omega)]) (fun k i k1 k2 hk => ⟨by
      rcases hk with hk | hk
      · rw [si_ok hk.2, si_ok hk.1]
      · rw [si_oj hk, si_oj hk], rfl⟩) (by rw [si_ok (by omega)]; exact si_ss) (fun _ => si_ss)
    refine ⟨_, ?_, C2, J2, p3.x.trans f2.x⟩
    have o10 : okA sh n 110 103 (nI j) = true := by rw [lay_a h.1 110 103 24 (by decide) rfl]; exact okI_nI (by omega) (by omega)
    have o12 : okA sh n 112 101 (nI j) = true := by rw [lay_a h.1 112 101 24 (by decide) rfl]; exact okI_nI (by omega) (by omega)
    have L2 : Lay sh n (si z1 110 j (vp_nar .boolean 1)) := p2.1.of rfl
    rw [E]
    unfold fn_X4_keep_B137
    rw [p1, cal_s, if_neg one0, if_pos (by rfl), p2.1.2.2 87 2 104 rfl, lnk_s, (b_jour h.1).1, grd_true, p2.1.2.2 104 8 110 rfl, lnk_s, o10, grd_true, nI_clamp (by omega), lt_t, L2.2.2 87 2 104 rfl, lnk_s, (b_jour h.1).1, grd_true, L2.2.2 104 10 112 rfl, lnk_s, o12, grd_true, lt_t]
    rfl
  · intro hg
    obtain ⟨z1, p1, p2, p3⟩ := h.payE (F := F) (c := 10 + szB H d v) (by omega) (by omega)
    refine ⟨z1, ?_, p2, p3⟩
    rw [E]
    unfold fn_X4_keep_B137
    rw [p1, cal_s, if_pos rfl]
/-- 48 .. 51 pay ten -/
theorem CM.k10 (h : CM sh n z pk kt H m sl0 fr cs cl nf g lim) {o : Nat} (ho : 48 ≤ o) (ho2 : o ≤ 51) {v e : Int32} (hg : lim < g + 10) : ∃ z', fn_X4_keep_B113 F sh n (nI o) 87 v e z = some (z', ()) ∧ CE sh n z' 2 5 lim sl0 ∧ FrC z z' := by
  obtain ⟨z1, p1, p2, p3⟩ := h.payE (F := F) (c := 10) hg (by omega)
  refine ⟨z1, ?_, p2, p3⟩
  unfold fn_X4_keep_B113
  rw [if_neg (fun q => by have := (nI_ij (a := o) (b := 47) (by omega) (by omega)).mp q; omega)]
  unfold fn_X4_keep_B137
  rw [show (10 : Int32) = nI 10 from rfl, p1, cal_s, if_pos rfl]
theorem CM.k48 (h : CM sh n z pk kt H m sl0 fr cs cl nf g lim) (hJ : CJ z na ak cn ws) {j : Nat} {v : Int32} (hj : j < na) (h3 : (ak j).1 = 3) (ht : (ak j).2.2.2.2.1 = true) (hg : g + 10 ≤ lim) (h64 : (fr (nf - 1)).2.2.1.1 < 64) (s : Sl) (t : Nat) : ∃ z', fn_X4_keep_B113 F sh n (nI 48) 87 v (nI j) z = some (z', ()) ∧ CM sh n z' pk kt H m sl0 (setF fr (nf - 1) (pshV (fr (nf - 1)) s)) (up2 cs (nf - 1) (fr (nf - 1)).2.2.1.1 (cn j)) cl nf (g + 10) lim ∧ CJ z' na (upA ak j (akT (ak j) false t)) (fun e => if e = j then 0 else cn e) ws ∧ FrX z z' := by
  have n24 := hJ.2.1
  obtain ⟨z1, p1, p2, p3⟩ := h.pay (F := F) (c := 10) hg
  have J1 := hJ.fc p3
  have f2 : FrJ z1 (si z1 110 j 0) := FrJ.si (by omega)
  have C2 := p2.jr f2 (p2.2.1.mv (fun k a b => ⟨by rw [si_ok (by omega)], rfl⟩))
  have J2 : CJ (si z1 110 j 0) na (upA ak j (akT (ak j) false t)) (fun e => if e = j then 0 else cn e) ws := J1.set hj h3 (by rw [si_ok (by omega)]) (fun k i k1 k2 hk => ⟨by
    rcases hk with hk | hk
    · rw [si_ok hk.1]
    · rw [si_oj hk], rfl⟩) si_ss (fun q => absurd q (by decide))
  obtain ⟨z3, q1, q2, q3⟩ := C2.push (F := F) h64 s (cn j)
  refine ⟨z3, ?_, q2, J2.fc q3, (p3.x.trans f2.x).trans q3.x⟩
  have o10 : okA sh n 110 103 (nI j) = true := by rw [lay_a h.1 110 103 24 (by decide) rfl]; exact okI_nI (by omega) (by omega)
  have o12 : okA sh n 112 101 (nI j) = true := by rw [lay_a h.1 112 101 24 (by decide) rfl]; exact okI_nI (by omega) (by omega)
  have L2 : Lay sh n (si z1 110 j (vp_nar .boolean 0)) := p2.1.of rfl
  have e12 : (si z1 110 j (vp_nar .boolean 0)).1 112 j = nI (cn j) := by rw [si_ok (by omega)]; exact (J1.2.2 j hj).2.2.2.2.2.2 h3 ht
  unfold fn_X4_keep_B113
  rw [if_neg (by decide)]
  unfold fn_X4_keep_B137
  rw [show (10 : Int32) = nI 10 from rfl, p1, cal_s, if_neg one0, if_neg (by decide), if_pos (by rfl), p2.1.2.2 87 2 104 rfl, lnk_s, (b_jour h.1).1, grd_true, p2.1.2.2 104 8 110 rfl, lnk_s, o10, grd_true, nI_clamp (by omega), lt_t, L2.2.2 87 2 104 rfl, lnk_s, (b_jour h.1).1, grd_true, L2.2.2 104 10 112 rfl, lnk_s, o12, grd_true, e12]
  have q1' : fn_X4_push F sh n (si z1 110 j (vp_nar .boolean 0)) 87 (nI (cn j)) = some (z3, ()) := q1
  rw [q1', cal_s]
theorem CM.k49 (h : CM sh n z pk kt H m sl0 fr cs cl nf g lim) (hJ : CJ z na ak cn ws) {j : Nat} {v : Int32} (hj : j < na) (h3 : (ak j).1 = 3) (hg : g + 10 ≤ lim) (h64 : (fr (nf - 1)).2.2.1.1 < 64) (hm : m < 21600) (s : Sl) : ∃ z', fn_X4_keep_B113 F sh n (nI 49) 87 v (nI j) z = some (z', ()) ∧ CM sh n z' pk kt (upH H m (1, 0, if (ak j).2.2.2.2.1 then 1 else 0, [])) (m + 1) sl0 (setF fr (nf - 1) (pshV (fr (nf - 1)) s)) (up2 cs (nf - 1) (fr (nf - 1)).2.2.1.1 m) cl nf (g + 10) lim ∧ FrC z z' := by
  have n24 := hJ.2.1
  obtain ⟨z1, p1, p2, p3⟩ := h.pay (F := F) (c := 10) hg
  have J1 := hJ.fc p3
  have e10 := (J1.2.2 j hj).2.2.2.2.1
  rw [if_neg (by omega)] at e10
  have o10 : okA sh n 110 103 (nI j) = true := by rw [lay_a h.1 110 103 24 (by decide) rfl]; exact okI_nI (by omega) (by omega)
  obtain ⟨z2, q1, q2, q3⟩ := p2.make (F := F) h64 hm (k := 1) (x := 0) (y := if (ak j).2.2.2.2.1 then 1 else 0) (by omega) (by unfold inn; omega) s
  refine ⟨z2, ?_, q2, p3.trans q3⟩
  unfold fn_X4_keep_B113
  rw [if_neg (by decide)]
  unfold fn_X4_keep_B137
  rw [show (10 : Int32) = nI 10 from rfl, p1, cal_s, if_neg one0, if_neg (by decide), if_neg (by decide), if_pos (by rfl), p2.1.2.2 87 2 104 rfl, lnk_s, (b_jour h.1).1, grd_true, p2.1.2.2 104 8 110 rfl, lnk_s, o10, grd_true, nI_clamp (by omega), e10]
  cases q : (ak j).2.2.2.2.1
  · rw [q] at q1
    have q1' : fn_X4_pushNumber F sh n z1 87 1 0 0 = some (z2, ()) := q1
    rw [if_pos (by rfl), q1', cal_s]
  · rw [q] at q1
    have q1' : fn_X4_pushNumber F sh n z1 87 1 0 1 = some (z2, ()) := q1
    rw [if_neg (by decide), q1', cal_s]
theorem CM.k50 (h : CM sh n z pk kt H m sl0 fr cs cl nf g lim) (hJ : CJ z na ak cn ws) {j o : Nat} {v : Int32} (ho : o = 50 ∨ o = 51) (hj : j < na) (h3 : (ak j).1 = 3) (ht : (ak j).2.2.2.2.1 = true) (hc : cn j < 2 ^ 31) (hg : g + 10 ≤ lim) (h64 : (fr (nf - 1)).2.2.1.1 < 64) (hm : m < 21600) (s : Sl) : ∃ z', fn_X4_keep_B113 F sh n (nI o) 87 v (nI j) z = some (z', ()) ∧ CM sh n z' pk kt (upH H m (8, 0, lN (cn j), [])) (m + 1) sl0 (setF fr (nf - 1) (pshV (fr (nf - 1)) s)) (up2 cs (nf - 1) (fr (nf - 1)).2.2.1.1 m) cl nf (g + 10) lim ∧ FrC z z' := by
  have n24 := hJ.2.1
  obtain ⟨z1, p1, p2, p3⟩ := h.pay (F := F) (c := 10) hg
  have J1 := hJ.fc p3
  have e12 := (J1.2.2 j hj).2.2.2.2.2.2 h3 ht
  have o12 : okA sh n 112 101 (nI j) = true := by rw [lay_a h.1 112 101 24 (by decide) rfl]; exact okI_nI (by omega) (by omega)
  obtain ⟨z2, q1, q2, q3⟩ := p2.make (F := F) h64 hm (k := 8) (x := 0) (y := lN (cn j)) (by omega) (by unfold inn; omega) s
  refine ⟨z2, ?_, q2, p3.trans q3⟩
  have ne : ∀ (x : Nat) (y : Int32), y = nI x → x < 50 → ¬ nI o = y := fun x y hy h1 q => by rw [hy] at q; have := (nI_ij (a := o) (b := x) (by omega) (by omega)).mp q; omega
  unfold fn_X4_keep_B113
  rw [if_neg (ne 47 47 rfl (by omega))]
  unfold fn_X4_keep_B137
  rw [show (10 : Int32) = nI 10 from rfl, p1, cal_s, if_neg one0, if_neg (ne 47 47 rfl (by omega)), if_neg (ne 48 48 rfl (by omega)), if_neg (ne 49 49 rfl (by omega)), p2.1.2.2 87 2 104 rfl, lnk_s, (b_jour h.1).1, grd_true, p2.1.2.2 104 10 112 rfl, lnk_s, o12, grd_true, nI_clamp (by omega), e12, nI_l hc, show (8 : Int32) = nI 8 from rfl, q1, cal_s]
end
