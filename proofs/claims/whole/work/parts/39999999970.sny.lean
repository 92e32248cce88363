/-! A CALL'S END: the same on both sides -/
/-- results of both sides -/
def ResS (t h : Nat) (kd : Nat → Nat) (hi lo : Nat → Int64) (z y : St) : Prop := h ≤ 8 ∧ z.1 416 t = nI h ∧ y.1 (113 + 7 * t) 15 = nI h ∧ ∀ k, k < h → (z.1 417 (8 * t + k) = nI (kd k) ∧ z.2.1 418 (8 * t + k) = hi k ∧ z.2.1 419 (8 * t + k) = lo k) ∧ (y.1 (113 + 7 * t + 4) k = nI (kd k) ∧ y.2.1 (113 + 7 * t + 5) k = hi k ∧ y.2.1 (113 + 7 * t + 6) k = lo k)
theorem nI_uq {a b : Nat} (h : nI a = nI b) (ha : a < 2 ^ 31) (hb : b < 2 ^ 31) : a = b := by
  by_cases c : a < b
  · exact absurd h (fun q => by
      have q1 := (nI_leI (a := b) (b := a) hb ha).mp (by rw [q]; exact Int32.le_refl _)
      omega)
  · by_cases d : b < a
    · exact absurd h (fun q => by
        have q1 := (nI_leI (a := a) (b := b) ha hb).mp (by rw [q]; exact Int32.le_refl _)
        omega)
    · omega
theorem GLe.at {z : St} {g kt lim : Nat} {s : Int32} (h : GLe z g s) (k13 : z.2.2 87 13 = some kt) (t3 : z.1 kt 3 = nI lim) (hl : lim ≤ 20000) : g ≤ lim := by
  obtain ⟨k, l, h1, h2, h3, h4, _⟩ := h
  rw [k13] at h1
  cases h1
  rw [t3] at h2
  have := nI_uq h2 (by omega) (by omega)
  omega
theorem GLe.sl {z : St} {g : Nat} {s : Int32} (h : GLe z g s) : z.1 88 6 = s := by
  obtain ⟨_, _, _, _, _, _, h⟩ := h
  exact h
/-- the ledger behind a call that was done -/
def KEnd (E : Ev) (sd : Int64) (lim nc : Nat) (ac : Nat → Int64 × Int64 × Int64) (nr : Nat) (rs : Nat → Int64 × Nat × Hp × Nat) (K : Nat → (Nat → Int64 × Int64 × Int64) → Nat → (Nat → Int64 × Nat × Hp × Nat) → Prop) : Prop := ∀ na ak H m ty fr nr1 rs1 nc' ac' nr' rs', (0 < na ∧ (ak 0).1 = 1 ∧ (ak 0).2.1 = sd) → MJ E H m ty fr 1 na ak (fun _ => none) → Dst na ak → (∀ j, j < na → KyOk (ak j).1 (ak j).2.1 (ak j).2.2.1) → RmR ak na 0 nr rs nr1 rs1 → WrR H ak na 0 nr1 rs1 nr' rs' → WrA (akS ak lim) ak na 0 nc ac nc' ac' → (∀ i, i < nr' → Pre (rs' i).2.2.1 48 0 (rs' i).2.2.2) → K nc' ac' nr' rs'
/-- what both come to -/
def CallQ (E : Ev) (sh : Nat → Nat × Nat) (n t : Nat) (sd : Int64) (lim md : Nat) (K : Nat → (Nat → Int64 × Int64 × Int64) → Nat → (Nat → Int64 × Nat × Hp × Nat) → Prop) (sl0 : Int32) (zr zc z' y' : St) : Prop := ∃ o c g nc' ac' acC' nr' rs' so' h kd hi lo, (Lay sh n z' ∧ Lay sh n y') ∧ (o ≤ 2 ∧ g ≤ 20000) ∧ (z'.1 337 27 = nI o ∧ z'.2.1 337 28 = c ∧ z'.1 337 26 = nI g) ∧ (y'.1 (113 + 7 * t) 11 = nI o ∧ y'.2.1 (113 + 7 * t) 12 = c ∧ y'.1 (113 + 7 * t) 13 = nI g) ∧ (RLg z' nc' ac' nr' rs' ∧ CLg y' nc' acC' nr' so' ∧ RsP E E.1 nr' rs' so' ∧ AcR sd lim nc' ac' acC' ∧ nc' + md + nr' ≤ 256) ∧ ResS t h kd hi lo z' y' ∧ FrQ t zr z' ∧ FrP (113 + 7 * t) zc y' ∧ g ≤ lim ∧ K nc' ac' nr' rs' ∧ y'.1 88 6 = sl0
section
variable {E : Ev} {F n : Nat} {sh : Nat → Nat × Nat} {pk : Nat → Nat} {sl0 : Int32} {Ms : Nat → Option Md} {zr zc : St} {nc nr md t lim u f : Nat} {ac acC : Nat → Int64 × Int64 × Int64} {rs : Nat → Int64 × Nat × Hp × Nat} {so : Nat → Option Rsc} {sd : Int64} {U : Md} {ws : Nat → Int64 → Nat → Bool} {K : Nat → (Nat → Int64 × Int64 × Int64) → Nat → (Nat → Int64 × Nat × Hp × Nat) → Prop}
theorem nI0 {o : Nat} (h : o = 1 ∨ o = 2) : ¬ nI o = 0 := by rcases h with h | h <;> subst h <;> decide
theorem call_bad {o g : Nat} {c : Int64} (ho : o = 1 ∨ o = 2) (re : RE sh n zr o c g) (ce : CE sh n zc o c g sl0) (rl : RLg zr nc ac nr rs) (cg : CLg zc nc acC nr so) (rp : RsP E E.1 nr rs so) (ar : AcR sd lim nc ac acC) (hpl : nc + md + nr ≤ 256) (ht : t < 32) (k13 : zc.2.2 87 13 = some (113 + 7 * t)) (t3' : zc.1 (113 + 7 * t) 3 = nI lim) (hl' : lim ≤ 20000) (hK0 : K nc ac nr rs) (c15 : zc.1 (113 + 7 * t) 15 = nI 0) (r0 : zr.1 416 t = nI 0) : ∃ z' y', aftR F sh n (nI t) zr = some (z', ()) ∧ fn_X4_run_B186 F sh n 87 zc = some (y', ()) ∧ CallQ E sh n t sd lim md K sl0 zr zc z' y' := by
  obtain ⟨rL, r1, r2, r3⟩ := re
  obtain ⟨cL, _, c2, c3, c4, c5⟩ := ce
  have n0 := nI0 ho
  have g20 := c5.le
  have ok : okO sh n (113 + 7 * t) 8 = true := lay_o cL _ 8 0 (by omega) (tx_sh t ht).1
  obtain ⟨v1, v2, v3, v4⟩ := txE_v (kt := 113 + 7 * t) (o := o) (g := g) (z := zc) (c := c)
  refine ⟨zr, txE zc (113 + 7 * t) o c g, ?_, ?_, o, c, g, nc, ac, acC, nr, rs, so, 0, fun _ => 0, fun _ => 0, fun _ => 0, ⟨rL, cL.of rfl⟩, ⟨by omega, c5.le⟩, ⟨r1, r2, r3⟩, ⟨v1, v2, v3⟩, ⟨rl, cg.txE (by omega), rp, ar, hpl⟩, ⟨by omega, r0, by rw [v4 15 (by omega) (by omega)]; exact c15, fun k hk => by omega⟩, FrQ.rfl', txE_p (by omega), c5.at k13 t3' hl', hK0, by rw [((txE_p (by omega)).2.1 88 (by omega) (by omega) (by omega) (by omega)).1]; exact c5.sl⟩
  · unfold aftR fn_X18_callOne_B181
    rw [r1, if_neg n0, if_neg n0]
  · unfold fn_X4_run_B186 fn_X4_run_B211
    rw [c2, if_neg n0, if_neg n0, run256 k13 ok (by omega) c2 c3 c4]
theorem call_end (hF : 300 ≤ F) (hE : EvOk E) (hA : EvA E) {na g : Nat} {ak : Nat → Ask} (dn : Done (u, f) E sh n pk sl0 Ms zr zc na ak g ws) (h0 : 0 < na ∧ (ak 0).1 = 1 ∧ (ak 0).2.1 = sd) (eU : Ms u = some U) (gl : (gvsOf U f).length ≤ 8) (gp : ∀ k, k < (gvsOf U f).length → ∃ q, 1 ≤ q ∧ q ≤ 5 ∧ (gvsOf U f).getD k [] = [q]) (rl : RLg zr nc ac nr rs) (cg : CLg zc nc acC nr so) (rp : RsP E E.1 nr rs so) (ar : AcR sd lim nc ac acC) (hw : ∀ x : Ask, ws x.1 x.2.1 x.2.2.1 = wasT nc ac nr rs x) (m5 : zr.1 337 5 = nI md) (k5 : zc.1 3 5 = nI md) (hpl : nc + md + nr ≤ 256) (h25 : zr.1 337 25 = nI lim) (hl : lim ≤ 20000) (ht : t < 32) (k13 : zc.2.2 87 13 = some (113 + 7 * t)) (t3' : zc.1 (113 + 7 * t) 3 = nI lim) (hl' : lim ≤ 20000) (hK0 : K nc ac nr rs) (c15 : zc.1 (113 + 7 * t) 15 = nI 0) (r0 : zr.1 416 t = nI 0) (hK1 : KEnd E sd lim nc ac nr rs K) : ∃ z' y', aftR F sh n (nI t) zr = some (z', ()) ∧ fn_X4_run_B186 F sh n 87 zc = some (y', ()) ∧ CallQ E sh n t sd lim md K sl0 zr zc z' y' := by
  obtain ⟨H, m, ty, fr, Hc, mc, phi, Rn, cs, cl, cn, ⟨⟨rL, r1, r2, r3⟩, hM, ra⟩, ⟨cL, c1, c2, c3, c4, c5⟩, hH, cj, ⟨s1, s2⟩, cf, I, rc, sr, hN, an, ⟨b1, b2⟩, ⟨u1, u2⟩, U', L, e1, fm, l1, l2⟩ := dn
  have u1' : (fr 0).1.1 = u := u1
  have u2' : (fr 0).1.2.1 = f := u2
  rw [u1', eU] at e1
  have eU' : U = U' := by simpa using e1
  subst eU'
  rw [u2'] at l1 l2 fm
  have n24 := cj.2.1
  have g20 := c5.le
  have ok : okO sh n (113 + 7 * t) 8 = true := lay_o cL _ 8 0 (by omega) (tx_sh t ht).1
  obtain ⟨T, t1, t2, t3⟩ := tm_both (F := F) (acC := acC) (so := so) hF hE hA I hN rc rL cL ra hM cj hH an rl cg hw m5 k5 hpl (by omega)
  have z0 : nI 0 = (0 : Int32) := rfl
  cases T with
  | true =>
    have t2' : fn_X2_fits F sh n zc 104 = some (zc, 0) := t2
    have t1' : fn_X18_isTooMuch F sh n zr 337 = some (zr, 1) := t1
    have Lz : Lay sh n (sl (si (si zc 87 15 0) 87 16 2) 87 17 4) := cL.of rfl
    obtain ⟨v1, v2, v3, v4⟩ := txE_v (kt := 113 + 7 * t) (o := 2) (g := g) (z := sl (si (si zc 87 15 0) 87 16 2) 87 17 4) (c := 4)
    have fp : FrP (113 + 7 * t) zc (sl (si (si zc 87 15 0) 87 16 2) 87 17 4) := ⟨rfl, fun k a b c d => ⟨by funext j; rw [sl_1, si_ok b, si_ok b], by funext j; rw [sl_ok b, si_2, si_2]⟩, fun j _ _ => by rw [sl_1, si_ok (by omega), si_ok (by omega)], by funext j; rw [sl_ok (by omega), si_2, si_2], ⟨by funext j; rw [sl_1, si_ok (by omega), si_ok (by omega)], by rw [sl_1, si_oj (by omega), si_oj (by omega)]⟩, fun j _ _ _ => by rw [sl_1, si_ok (by omega), si_ok (by omega)], fun j _ => by rw [sl_ok (by omega), si_2, si_2]⟩
    have fq : FrQ t zr (sl (si zr 337 27 2) 337 28 4) := ⟨rfl, fun k a b c d => ⟨by funext j; rw [sl_1, si_ok a], by funext j; rw [sl_ok a, si_2]⟩, fun j a _ _ => ⟨by rw [sl_1, si_oj (fun q => a (by subst q; simp [mfl]))], by rw [sl_oj (fun q => a (by subst q; simp [mfl])), si_2]⟩, fun j a => by rw [sl_oj (fun q => a (by subst q; simp [mfl])), si_2], fun j _ => by rw [sl_1, si_ok (by omega)], fun k j a b _ => ⟨by rw [sl_1, si_ok (by omega)], by rw [sl_ok (by omega), si_2]⟩⟩
    refine ⟨sl (si zr 337 27 2) 337 28 4, txE (sl (si (si zc 87 15 0) 87 16 2) 87 17 4) (113 + 7 * t) 2 4 g, ?_, ?_, 2, 4, g, nc, ac, acC, nr, rs, so, 0, fun _ => 0, fun _ => 0, fun _ => 0, ⟨rL.of rfl, Lz.of rfl⟩, ⟨by omega, c5.le⟩, ⟨by rw [sl_1, si_ss]; rfl, sl_ss, by rw [sl_1, si_oj (by omega)]; exact r3⟩, ⟨v1, v2, v3⟩, ⟨rl.of (fun c a b => ⟨by funext j; rw [sl_1, si_ok (by omega)], by funext j; rw [sl_ok (by omega), si_2]⟩) (by rw [sl_1, si_oj (by omega)]) (by rw [sl_1, si_oj (by omega)]), (cg.of (fun k a b => ⟨by funext j; rw [sl_1, si_ok (by omega), si_ok (by omega)], by funext j; rw [sl_ok (by omega), si_2, si_2]⟩)).txE (by omega), rp, ar, hpl⟩, ⟨by omega, by rw [sl_1, si_ok (by omega)]; exact r0, by rw [v4 15 (by omega) (by omega), sl_1, si_ok (by omega), si_ok (by omega)]; exact c15, fun k hk => by omega⟩, fq, fp.trans (txE_p (by omega)), c5.at k13 t3' hl', hK0, by rw [((fp.trans (txE_p (by omega))).2.1 88 (by omega) (by omega) (by omega) (by omega)).1]; exact c5.sl⟩
    · unfold aftR
      rw [r1, if_pos z0, t1', cal_s, if_neg one0, lt_t, lt_t]
      unfold fn_X18_callOne_B181
      rw [show (sl (si zr 337 27 2) 337 28 4).1 337 27 = 2 by rw [sl_1, si_ss], if_neg (by decide)]
    · unfold fn_X4_run_B186
      rw [c2, if_pos z0, cL.2.2 87 2 104 rfl, lnk_s, (b_jour cL).1, grd_true, t2', cal_s, if_pos rfl]
      unfold fn_X4_end
      rw [(b_mach cL).1, grd_true, lt_t, lt_t, lt_t, cal_s]
      unfold fn_X4_run_B211
      rw [show (sl (si (si zc 87 15 0) 87 16 2) 87 17 4).1 87 16 = 2 by rw [sl_1, si_ss], if_neg (by decide)]
      exact run256 k13 ok (by omega) (by rw [sl_1, si_ss]; rfl) sl_ss (by rw [sl_1, si_oj (by omega), si_oj (by omega)]; exact c4)
  | false =>
    have t2' : fn_X2_fits F sh n zc 104 = some (zc, 1) := t2
    have t1' : fn_X18_isTooMuch F sh n zr 337 = some (zr, 0) := t1
    obtain ⟨sz64, cnt⟩ := t3 rfl
    have hh : (fr 0).2.2.1.1 = (gvsOf U f).length := by rw [fm.1, l1]
    -- results
    have slot : ∀ k, k < (fr 0).2.2.1.1 → (H ((fr 0).2.2.1.2 k).1).1 ≠ 0 ∧ (1 ≤ (H ((fr 0).2.2.1.2 k).1).1 ∧ (H ((fr 0).2.2.1.2 k).1).1 ≤ 5) ∧ cs 0 k = phi ((fr 0).2.2.1.2 k).1 ∧ (Hc (cs 0 k)).1 = (H ((fr 0).2.2.1.2 k).1).1 ∧ (Hc (cs 0 k)).2.1 = (H ((fr 0).2.2.1.2 k).1).2.1 ∧ (Hc (cs 0 k)).2.2.1 = (H ((fr 0).2.2.1.2 k).1).2.2.1 := fun k hk => by
      obtain ⟨q, q1, q2, q3⟩ := gp k (by omega)
      obtain ⟨m1, m2⟩ := fm.2.2.1 k (by rw [l1]; omega)
      have e3 := l2 k (by rw [l1]; omega)
      rw [q3] at e3
      have pt : PT 0 [q] := ⟨q1, q2⟩
      have w1 : ((fr 0).2.2.1.2 k).2.1 = 0 := by rw [m1.1, e3]; exact sR_p pt
      have w2 : ((fr 0).2.2.1.2 k).2.2.1 = q := by rw [m1.2.1, e3]; rfl
      obtain ⟨a1, a2, _⟩ := (I.2.2.1 0 (by omega)).1 k hk
      have V := Vs_0 (fr := fr) (cs := cs) (cl := cl) (nf := 1) (d := 0) (by omega) hk
      have cp := (sr.1 _ _ _ _ _ V).1 w1
      have lt := (I.2.1.2 _ a1).2.1
      rw [a2, w2] at lt
      have hk := lt.kt.1
      rw [if_neg (by omega), if_pos (by omega)] at hk
      have tq : ty ((fr 0).2.2.1.2 k).1 = q := by rw [a2, w2]
      rcases rc.1 _ a1 (by rw [tq]; omega) with ⟨d1, _⟩ | ⟨_, d2, _, d4⟩
      · rw [tq] at d1; omega
      · have d5 := d4 (by unfold inn; omega)
        rw [cp]
        exact ⟨a1, ⟨by omega, by omega⟩, rfl, d2, d5.1, d5.2⟩
    obtain ⟨z1, p1, p2, p3⟩ := rres (F := F) (n := n) (sh := sh) t (fr 0).2.2.1.1 ht (by omega) (fun k => ((fr 0).2.2.1.2 k).1) (fun k => (H ((fr 0).2.2.1.2 k).1).1) (fun k => (H ((fr 0).2.2.1.2 k).1).2.1) (fun k => (H ((fr 0).2.2.1.2 k).1).2.2.1) (fun k hk => by
      have := hM.2.2 _ (slot k hk).1
      have := hM.2.1
      exact ⟨by omega, by omega⟩) (fr 0).2.2.1.1 0 F zr (by omega) (by omega) rL s1 (fun k hk => by
      obtain ⟨_, _, w, _⟩ := hM.2.2 _ (slot k hk).1
      exact ⟨s2 k hk, w.1, w.2.1, w.2.2.1⟩)
    obtain ⟨_, x2, x3, x4, x5, x6, _⟩ := cf.2.2.2 0 (by omega)
    obtain ⟨y1, g1, g2, g3, g4⟩ := cres (F := F) (n := n) (sh := sh) t (fr 0).2.2.1.1 ht (by omega) (fun k => cs 0 k) (fun k => (H ((fr 0).2.2.1.2 k).1).1) (fun k => (H ((fr 0).2.2.1.2 k).1).2.1) (fun k => (H ((fr 0).2.2.1.2 k).1).2.2.1) (fun k hk => by
      obtain ⟨a, b, c, d, e, f⟩ := slot k hk
      exact (hH.lt (i := cs 0 k) (by rw [d]; exact a)).2.2) (fr 0).2.2.1.1 0 F zc (by omega) (by omega) cL k13 x5 c15 (fun k hk => by
      obtain ⟨a, b, c, d, e, f⟩ := slot k hk
      have al : (Hc (cs 0 k)).1 ≠ 0 := by rw [d]; exact a
      obtain ⟨v1, v2⟩ := hH.leaf al (by rw [d]; unfold inn; omega)
      refine ⟨by have := x6 k hk; rw [Nat.zero_mul, Nat.zero_add] at this; exact this, by rw [hH.kd al, d], by rw [v1, e], by rw [v2, f]⟩)
    rw [Nat.add_zero] at p2
    -- both ledgers
    have z416 : ∀ c, c ≠ 416 → ¬ (417 ≤ c ∧ c ≤ 419) → (si z1 416 t (nI (fr 0).2.2.1.1)).1 c = zr.1 c ∧ (si z1 416 t (nI (fr 0).2.2.1.1)).2.1 c = zr.2.1 c := fun c a b => ⟨by funext j; rw [si_ok a, (p2.2.1 c b).1], by rw [si_2, (p2.2.1 c b).2]⟩
    have ra2 : RAs (si z1 416 t (nI (fr 0).2.2.1.1)) na ak := ra.of (by rw [(z416 337 (by omega) (by omega)).1]) (fun c a b => z416 c (by omega) (by omega))
    have L2 : Lay sh n (si z1 416 t (nI (fr 0).2.2.1.1)) := rL.of p2.1
    have L3 : Lay sh n (sl (si z1 416 t (nI (fr 0).2.2.1.1)) 388 0 ((ak 0).2.2.2.1 + lN lim)) := L2.of rfl
    have e88 : (si z1 416 t (nI (fr 0).2.2.1.1)).2.1 388 0 = (ak 0).2.2.2.1 := (ra2.2.2 0 h0.1).2.2.2.1
    have e25 : (si z1 416 t (nI (fr 0).2.2.1.1)).1 337 25 = nI lim := by rw [(z416 337 (by omega) (by omega)).1]; exact h25
    have c388 : ∀ c, c ≠ 388 → ¬ (416 ≤ c ∧ c ≤ 419) → (sl (si z1 416 t (nI (fr 0).2.2.1.1)) 388 0 ((ak 0).2.2.2.1 + lN lim)).1 c = zr.1 c ∧ (sl (si z1 416 t (nI (fr 0).2.2.1.1)) 388 0 ((ak 0).2.2.2.1 + lN lim)).2.1 c = zr.2.1 c := fun c a b => ⟨(z416 c (by omega) (by omega)).1, by funext j; rw [sl_ok a, (z416 c (by omega) (by omega)).2]⟩
    have I0 : SetI E sh n sd lim H m Hc mc sl0 na ak cn ws (sl (si z1 416 t (nI (fr 0).2.2.1.1)) 388 0 ((ak 0).2.2.2.1 + lN lim)) y1 nc ac acC nr rs so := ⟨⟨L3, cL.of g2.1⟩, ⟨ra2.s0, hM.fr (fun k a b => (c388 k (by omega) (by omega)).1) (fun k a b => (c388 k (by omega) (by omega)).2)⟩, ⟨cj.of (fun k a b => g2.2.1 k (by omega) (by omega)), hH.fr (fun k a b => (g2.2.1 k (by omega) (by omega)).1) (fun k a b => (g2.2.1 k (by omega) (by omega)).2)⟩, rl.of (fun c a b => c388 c (by omega) (by omega)) (by rw [(c388 337 (by omega) (by omega)).1]) (by rw [(c388 337 (by omega) (by omega)).1]), cg.of (fun k a b => g2.2.1 k (by omega) (by omega)), rp, ar⟩
    have w3 : ∀ j, (ak j).1 = 3 → (fdR nr rs (ak j).2.1 (ak j).2.2.1).isSome = ws (ak j).1 (ak j).2.1 (ak j).2.2.1 := fun j q => by
      rw [hw (ak j)]; unfold wasT; rw [if_neg (by omega), if_pos q]
    have w1 : ∀ j, (ak j).1 = 1 → (fdA nc ac (ak j).2.1).isSome = ws (ak j).1 (ak j).2.1 (ak j).2.2.1 := fun j q => by
      rw [hw (ak j)]; unfold wasT; rw [if_pos q]
    obtain ⟨z4, y4, nr4, rs4, so4, q1, q2, I4, q3, q4, q5, q6, q7⟩ := set_rm (F := F) (md := md) hF (N := nwC ak ws na 0) na 0 F F _ y1 nr rs so (by omega) (by omega) (by omega) I0 (fun j _ h3 _ => w3 j h3) cnt
    obtain ⟨z5, y5, nc5, ac5, acC5, nr5, rs5, so5, v1, v2, I5, v3, v4, v5, v6, v7, v8⟩ := set_wr (F := F) (md := md) hF hE hA I.2.1 hN rc h0 (fun p hp h3 ht => ⟨(I.2.2.2.2.1 p hp h3 ht).1, (I.2.2.2.2.1 p hp h3 ht).2, an p hp h3 ht, sz64 p hp h3 ht⟩) na 0 F F z4 y4 nc ac acC nr4 rs4 so4 (by omega) (by omega) (by omega) I4 (fun j _ hj t => ⟨w1 j, fun h3 => q3 j hj h3 t⟩) q4
    have fq : FrQ t zr z5 := (((p2.q.trans FrQ.s416).trans FrQ.s388).trans q5.q).trans v5.q
    have fl : FrLc y1 y5 := q6.trans v6
    have fp : FrP (113 + 7 * t) zc y5 := (g2.p (by omega)).trans (fl.p (by omega))
    have fg : FrG (sl (si z1 416 t (nI (fr 0).2.2.1.1)) 388 0 ((ak 0).2.2.2.1 + lN lim)) z5 := q5.trans v5
    have st : fn_X18_settle F sh n (si z1 416 t (nI (fr 0).2.2.1.1)) 337 = some (z5, ()) := by
      unfold fn_X18_settle
      rw [lay_o L2 337 18 0 (by decide) rfl, grd_true, L2.2.2 337 33 388 rfl, lnk_s, lay_a L2 388 102 24 (by decide) rfl, show okI 0 24 = true from rfl, grd_true, grd_true, show ((0 : Int32).toNatClampNeg) = 0 from rfl, e88, e25, lIi (by omega), lt_t]
      exact (show fn_X18_settle_L16 F sh n 337 F _ (nI 0) = _ from q1).trans v1
    have cm : fn_X2_commit F sh n y1 104 = some (y5, ()) := by
      unfold fn_X2_commit
      exact (show fn_X2_commit_L2 F sh n 104 F y1 (nI 0) = _ from q2).trans v2
    have y87 : ∀ c, 15 ≤ c → y5.1 c = y1.1 c ∧ y5.2.1 c = y1.2.1 c := fun c a => fl.2.1 c (by omega)
    have e16 : y5.1 87 16 = nI 0 := by rw [(y87 87 (by omega)).1, (g2.2.1 87 (by omega) (by omega)).1]; exact c2
    have e17 : y5.2.1 87 17 = 0 := by rw [(y87 87 (by omega)).2, (g2.2.1 87 (by omega) (by omega)).2]; exact c3
    have e14 : y5.1 87 14 = nI g := by rw [(y87 87 (by omega)).1, (g2.2.1 87 (by omega) (by omega)).1]; exact c4
    have e13 : y5.2.2 87 13 = some (113 + 7 * t) := by rw [fp.1]; exact k13
    have R6 := run256 (F := F) e13 ok (by omega) e16 e17 e14
    obtain ⟨o1, o2, o3, o4⟩ := txE_v (kt := 113 + 7 * t) (o := 0) (g := g) (z := y5) (c := 0)
    have g26 : ∀ j, j ≠ 3 → j ≠ 9 → j ≠ 14 → z5.1 337 j = zr.1 337 j := fun j a b c => by rw [fg.2.2.1 j a b c, (c388 337 (by omega) (by omega)).1]
    refine ⟨z5, txE y5 (113 + 7 * t) 0 0 g, ?_, ?_, 0, 0, g, nc5, ac5, acC5, nr5, rs5, so5, (fr 0).2.2.1.1, (fun k => (H ((fr 0).2.2.1.2 k).1).1), (fun k => (H ((fr 0).2.2.1.2 k).1).2.1), (fun k => (H ((fr 0).2.2.1.2 k).1).2.2.1), ⟨I5.1.1, I5.1.2.of rfl⟩, ⟨by omega, c5.le⟩, ⟨by rw [g26 27 (by omega) (by omega) (by omega)]; exact r1, by rw [fg.2.2.2, (c388 337 (by omega) (by omega)).2]; exact r2, by rw [g26 26 (by omega) (by omega) (by omega)]; exact r3⟩, ⟨o1, o2, o3⟩, ⟨I5.2.2.2.1, I5.2.2.2.2.1.txE (by omega), I5.2.2.2.2.2.1, I5.2.2.2.2.2.2, v3⟩, ⟨by omega, ?_, ?_, fun k hk => ⟨?_, ?_⟩⟩, fq, fp.trans (txE_p (by omega)), c5.at k13 t3' hl', hK1 na ak H m ty fr nr4 rs4 nc5 ac5 nr5 rs5 h0 I cj.1.2 (fun j hj => (cj.2.2 j hj).1) q7 v7 v8 (fun i hi => (I5.2.2.2.1.2.2.2 i hi).2.2.2.1), by rw [((fp.trans (txE_p (by omega))).2.1 88 (by omega) (by omega) (by omega) (by omega)).1]; exact c5.sl⟩
    · unfold aftR
      rw [r1, if_pos z0, t1', cal_s, if_pos rfl]
      unfold fn_X18_callOne_B181
      rw [r1, if_pos z0]
      exact (show fn_X18_callOne_L192 F sh n 337 (nI t) F zr (nI 0) = _ from p1).trans (by rw [st, cal_s])
    · unfold fn_X4_run_B186
      rw [c2, if_pos z0, cL.2.2 87 2 104 rfl, lnk_s, (b_jour cL).1, grd_true, t2', cal_s, if_neg one0]
      unfold fn_X4_run_B211
      rw [c2, if_pos z0]
      exact (show fn_X4_run_L220 F sh n 87 F zc (nI 0) = _ from g1).trans (by rw [cm, cal_s, R6])
    · rw [(fg.2.1 416 (by omega) (by omega)).1, sl_1, si_ss]
    · rw [o4 15 (by omega) (by omega), (y87 (113 + 7 * t) (by omega)).1]; exact g3
    · obtain ⟨a, b, c⟩ := p3 k (by omega) hk
      rw [(fg.2.1 417 (by omega) (by omega)).1, (fg.2.1 418 (by omega) (by omega)).2, (fg.2.1 419 (by omega) (by omega)).2, sl_1, si_ok (by omega), sl_ok (by omega), si_2, sl_ok (by omega), si_2]
      exact ⟨a, b, c⟩
    · obtain ⟨a, b, c⟩ := g4 k (by omega) hk
      have tf : ∀ i, i ≠ 113 + 7 * t → (txE y5 (113 + 7 * t) 0 0 g).1 i = y5.1 i ∧ (txE y5 (113 + 7 * t) 0 0 g).2.1 i = y5.2.1 i := fun i q => by
        unfold txE
        exact ⟨by funext j; rw [si_ok q, sl_1, si_ok q], by funext j; rw [si_2, sl_ok q, si_2]⟩
      rw [(tf _ (by omega)).1, (tf _ (by omega)).2, (tf _ (by omega)).2, (y87 _ (by omega)).1, (y87 _ (by omega)).2, (y87 _ (by omega)).2]
      exact ⟨a, b, c⟩
end
