/-! A CALL'S TURN, as a whole -/
/-- what a turn leaves alone, the reference's side -/
def FrTR (t : Nat) (z z' : St) : Prop := (∀ k j, k ≠ 337 ∨ j ≠ 48 → z'.2.2 k j = z.2.2 k j) ∧ (∀ k, k ≠ 337 → ¬ mcl k → ¬ (338 ≤ k ∧ k ≤ 348 ∧ k ≠ 341 ∧ k ≠ 342) → ¬ (412 ≤ k ∧ k ≤ 419) → z'.1 k = z.1 k ∧ z'.2.1 k = z.2.1 k) ∧ (∀ j, ¬ mfl j → j ≠ 3 → j ≠ 9 → z'.1 337 j = z.1 337 j) ∧ (∀ j, ¬ mfl j → j ≠ 21 → z'.2.1 337 j = z.2.1 337 j) ∧ (∀ k j, 412 ≤ k → k ≤ 416 → j ≠ t → z'.1 k j = z.1 k j) ∧ (∀ j, j ≠ t → z'.2.1 415 j = z.2.1 415 j) ∧ (∀ j, z'.1 414 j = z.1 414 j) ∧ ∀ k j, 417 ≤ k → k ≤ 419 → ¬ (8 * t ≤ j ∧ j < 8 * t + 8) → z'.1 k j = z.1 k j ∧ z'.2.1 k j = z.2.1 k j
/-- what a turn leaves alone, the class's side -/
def FrTC (kt : Nat) (z z' : St) : Prop := (∀ k j, k ≠ 98 → ¬ (k = 87 ∧ j = 13) → z'.2.2 k j = z.2.2 k j) ∧ (∀ k, ¬ (3 ≤ k ∧ k ≤ 14) → ¬ (87 ≤ k ∧ k ≤ 112) → k ≠ kt → ¬ (kt + 4 ≤ k ∧ k ≤ kt + 6) → z'.1 k = z.1 k ∧ z'.2.1 k = z.2.1 k) ∧ (∀ j, j ≠ 3 → j ≠ 10 → z'.1 3 j = z.1 3 j) ∧ (∀ j, j ≠ 15 → z'.2.1 3 j = z.2.1 3 j) ∧ (∀ j, j ≠ 11 → j ≠ 13 → j ≠ 15 → z'.1 kt j = z.1 kt j) ∧ ∀ j, j ≠ 12 → z'.2.1 kt j = z.2.1 kt j
/-- what a turn comes to, on both sides -/
def TurnQ (E : Ev) (t md D : Nat) (z y z' y' : St) : Prop := ∃ o c g nc ac nr rs so h kd hi lo, (o ≤ 3 ∧ g ≤ 20000) ∧ (z'.1 412 t = nI o ∧ z'.1 413 t = nI g ∧ z'.2.1 415 t = c) ∧ (y'.1 (113 + 7 * t) 11 = nI o ∧ y'.1 (113 + 7 * t) 13 = nI g ∧ y'.2.1 (113 + 7 * t) 12 = c) ∧ (RLg z' nc ac nr rs ∧ CLg y' nc ac nr so ∧ RsP E E.1 nr rs so ∧ UqA nc ac ∧ nc + md + nr ≤ 256) ∧ z'.2.1 337 21 = y'.2.1 3 15 ∧ ResS t h kd hi lo z' y' ∧ FrTR t z z' ∧ FrTC (113 + 7 * t) y y' ∧ (g ≤ D ∧ LdT E (D - g) nc ac nr rs ∧ z'.2.1 337 21 = z.2.1 337 21 + lN g) ∧ y'.1 88 6 = y.1 88 6 ∧ y'.1 87 18 = y.1 87 18
section
variable {E : Ev} {F n : Nat} {sh : Nat → Nat × Nat} {pk kr : Nat → Nat} {lim : Nat} {z y : St} {Ms : Nat → Option Md} {Ce : Nat → Nat → Nat → Lks}
variable {sd : Int64} {nc nr i : Nat} {ac : Nat → Int64 × Int64 × Int64} {rs : Nat → Int64 × Nat × Hp × Nat} {so : Nat → Option Rsc} {u f c t md : Nat} {kd : Nat → Nat} {hi lo : Nat → Int64} {U : Md}
theorem turn_call (hF : 20002 ≤ F) (hE : EvOk E) (hA : EvA E) (hC : E.2.1 256 ≤ 38 ∧ E.2.1 11 ≤ 38) (hsl : ¬ y.1 88 6 + 1 < y.1 88 6) (wd : Wld E Ms Ce) (lw : LgW pk Ms) (dt : DyT F sh n z y kr pk Ms) (rl : RLg z nc ac nr rs) (cg : CLg y nc ac nr so) (rp : RsP E E.1 nr rs so) (uq : UqA nc ac) (n5 : z.1 337 5 = nI md) (k5 : y.1 3 5 = nI md) (hpl : nc + md + nr ≤ 256) (qi : fdA nc ac sd = some i) (bu : z.2.1 337 21 = y.2.1 3 15)
    (hL : Lay sh n z) (hr : Run z) (h26 : z.1 337 26 = nI 0) (h25 : z.1 337 25 = nI lim) (hl : lim ≤ 20000) (h24 : z.2.1 337 24 = sd) (rx : RxA sh n z t c f kd hi lo) (m5 : z.1 404 t = nI U.1.1) (r0 : z.1 416 t = nI 0)
    (hLc : Lay sh n y) (t3 : y.1 (113 + 7 * t) 3 = nI lim) (t1 : y.2.1 (113 + 7 * t) 1 = sd) (t4 : y.1 (113 + 7 * t) 4 = nI U.1.1) (t5 : y.1 (113 + 7 * t) 5 = nI f) (tx : TxA sh n y (113 + 7 * t) c kd hi lo) (c15 : y.1 (113 + 7 * t) 15 = nI 0)
    (eU : Ms u = some U) (hf : f < fsOf U) (tl : (tksOf U f).length = c) (tk : ∀ i, i < c → (tksOf U f).getD i [] = [kd i]) (gl : (gvsOf U f).length ≤ 8) (gp : ∀ k, k < (gvsOf U f).length → ∃ q, 1 ≤ q ∧ q ≤ 5 ∧ (gvsOf U f).getD k [] = [q]) (ht : t < 32) (hk : ∀ i, i < c → 1 ≤ kd i ∧ kd i ≤ 5 ∧ LTm E (kd i) (kd i, hi i, lo i, []) []) {D : Nat} {led : Nat → Int64 → Nat → Nat} (cn : Ldc E led D sd lim nc ac nr rs) {x2 : Int32} :
    ∃ y1 z2 y2 z3 y3, fn_X7_charge F sh n y 3 (113 + 7 * t) = some (y1, ()) ∧ fn_X18_callOne F sh n z 337 (nI t) (nI u) x2 = some (z2, ()) ∧ fn_X4_run F sh n y1 87 (113 + 7 * t) = some (y2, ()) ∧ fn_X18_doOne_B181 F sh n 337 (nI t) z2 = some (z3, ()) ∧ fn_X7_settle F sh n y2 3 (113 + 7 * t) = some (y3, ()) ∧ Lay sh n y2 ∧ TurnQ E t md D z y z3 y3 := by
  have ok : okO sh n (113 + 7 * t) 8 = true := lay_o hLc _ 8 0 (by omega) (tx_sh t ht).1
  have hii := fd_lt _ _ _ qi
  have ni : (ac i).1 = sd := by simpa using hii.2.2
  have h3 := cg
  obtain ⟨y1, a1, a2, a3, a4⟩ := ccharge (F := F) (kt := 113 + 7 * t) (by omega) hLc cg ok t1 t3 (by omega) qi (by omega)
  have ar : AcR sd lim nc ac (fun j => if j = i then ((ac j).1, (ac j).2.1 - lN lim, (ac j).2.2 + 1) else ac j) := by
    refine ⟨⟨by rw [qi]; rfl, uq⟩, fun j hj => ?_⟩
    by_cases q : j = i
    · subst q
      simp only [if_true]
      rw [if_pos ni, if_pos ni]; exact ⟨trivial, rfl, rfl⟩
    · simp only [if_neg q]
      have : (ac j).1 ≠ sd := fun w => q (uq j i hj (by omega) (by rw [w, ni]))
      rw [if_neg this, if_neg this]; exact ⟨trivial, rfl, rfl⟩
  have fr1 : TbC y y1 := ⟨fun k _ _ _ => by rw [a3], fun k q => a4 k (by omega) (by omega), by rw [(a4 3 (by omega) (by omega)).1]⟩
  have e1 : ∀ k, k ≠ 5 → k ≠ 6 → y1.1 k = y.1 k ∧ y1.2.1 k = y.2.1 k := a4
  have tx1 : TxA sh n y1 (113 + 7 * t) c kd hi lo := by
    obtain ⟨ka, kb, kc, h1, h2, h3, h4, ⟨h5, h6, h7⟩, h8⟩ := tx
    refine ⟨ka, kb, kc, by rw [(e1 _ (by omega) (by omega)).1]; exact h1, by rw [a3]; exact h2, by rw [a3]; exact h3, by rw [a3]; exact h4, ⟨h5, h6, h7⟩, fun i hi => ?_⟩
    obtain ⟨w1, w2, w3, w4⟩ := h8 i hi
    exact ⟨w1, by rw [(e1 ka (by omega) (by omega)).1]; exact w2, by rw [(e1 kb (by omega) (by omega)).2]; exact w3, by rw [(e1 kc (by omega) (by omega)).2]; exact w4⟩
  obtain ⟨z2, y2, zr, zc, b1, b2, b3, b4, o, co, g, nc', ac', acC', nr', rs', so', h, kd', hi', lo', ⟨Lz2, Ly2⟩, ⟨o1, o2⟩, ⟨v1, v2, v3⟩, ⟨w1, w2, w3⟩, ⟨l1, l2, l3, l4, l5⟩, rsS, fq, fp, gl, ⟨ldT, ldB⟩, sl6⟩ := call_all (F := F) (x2 := x2) (pk := pk) (kr := kr) hF hE hA hC (by rw [(e1 88 (by omega) (by omega)).1]; exact hsl) wd lw (dt.at TbR.rfl' fr1).dy rl a2 rp ar n5 (by rw [(e1 3 (by omega) (by omega)).1]; exact k5) hpl hL hr h26 h25 hl h24 rx m5 r0 (hLc.of a3) (by rw [(e1 _ (by omega) (by omega)).1]; exact t3) (by rw [(e1 _ (by omega) (by omega)).2]; exact t1) (by rw [(e1 _ (by omega) (by omega)).1]; exact t4) (by rw [(e1 _ (by omega) (by omega)).1]; exact t5) tx1 (by rw [(e1 _ (by omega) (by omega)).1]; exact c15) eU hf tl tk gl gp ht hk cn.ldE (cn.ld0 qi) (K := fun nc' ac' nr' rs' => LdT E D nc' ac' nr' rs' ∧ ∀ i, i < nc' → (ac' i).1 = sd → lim ≤ N (ac' i).2.1) (cn.k0 uq qi) (cn.k1 hl)
  obtain ⟨i', qi'⟩ : ∃ i, fdA nc' ac' sd = some i := by
    have := l4.1.1
    cases q : fdA nc' ac' sd with
    | none => rw [q] at this; exact absurd this (by simp)
    | some i => exact ⟨i, rfl⟩
  have hii' := fd_lt _ _ _ qi'
  have ni' : (ac' i').1 = sd := by simpa using hii'.2.2
  obtain ⟨z3, c1, c2, c3, c4, c5, c6, c7⟩ := rsettle (F := F) (t := t) (o := o) (g := g) (c := co) (by omega) Lz2 l1 ht (by rw [fq.2.2.2.1 24 (by unfold mfl; omega), (b3.2.2 24 (by unfold mfl; omega)).2]; exact h24) v1 v3 v2 (by omega) qi'
  have yk : ∀ j, j ≠ 11 → j ≠ 13 → j ≠ 15 → y2.1 (113 + 7 * t) j = y.1 (113 + 7 * t) j := fun j a b d => by rw [fp.2.2.2.2.2.1 j a b d, (b4.2 _ (by omega)).1, (e1 _ (by omega) (by omega)).1]
  have yl : ∀ j, j ≠ 12 → y2.2.1 (113 + 7 * t) j = y.2.1 (113 + 7 * t) j := fun j a => by rw [fp.2.2.2.2.2.2 j a, (b4.2 _ (by omega)).2, (e1 _ (by omega) (by omega)).2]
  obtain ⟨y3, d1, d2, d3, d4, d5, d6, d7⟩ := csettle (F := F) (sd := sd) (kt := 113 + 7 * t) (i := i') (lim := lim) (g := g) (by omega) Ly2 l2 ok (by rw [yl 1 (by omega)]; exact t1) (by rw [yk 3 (by omega) (by omega) (by omega)]; exact t3) w3 (by omega) (by omega) (by rw [l4.fd]; exact qi') (by omega)
  refine ⟨y1, z2, y2, roS z3 t o co g, y3, a1, b1, b2, c1, d1, Ly2, o, co, g, nc', (fun j => if j = i' then ((ac' j).1, (ac' j).2.1 - lN g, (ac' j).2.2 + 1) else ac' j), nr', rs', so', h, kd', hi', lo', ⟨by omega, o2⟩, ?_, ?_, ⟨?_, ?_, l3, ?_, l5⟩, ?_, ?_, ?_, ?_, ?_, ?_⟩
  · unfold roS
    exact ⟨by rw [sl_1, si_ok (by omega), si_ss], by rw [sl_1, si_ss], sl_ss⟩
  · rw [(d4 (113 + 7 * t) (by omega) (by omega)).1, (d4 (113 + 7 * t) (by omega) (by omega)).2]
    exact ⟨w1, w3, w2⟩
  · refine c2.of (fun k a b => ?_) ?_ ?_
    · unfold roS
      exact ⟨by funext j; rw [sl_1, si_ok (by omega), si_ok (by omega)], by funext j; rw [sl_ok (by omega), si_2, si_2]⟩
    · unfold roS; rw [sl_1, si_ok (by omega), si_ok (by omega)]
    · unfold roS; rw [sl_1, si_ok (by omega), si_ok (by omega)]
  · refine d2.cg (fun j hj => ?_)
    obtain ⟨x1, x2, x3⟩ := l4.2 j hj
    by_cases q : j = i'
    · subst q
      rw [if_pos ni'] at x2 x3
      simp only [if_true]
      rw [x1, x2, x3, i64_c]
    · simp only [if_neg q]
      have ns : (ac' j).1 ≠ sd := fun w => q (l4.1.2 j i' hj (by omega) (by rw [w, ni']))
      rw [if_neg ns] at x2 x3
      exact Prod.ext x1.symm (Prod.ext x3.symm x2.symm)
  · exact l4.1.2.set (fun j _ => by
      by_cases q : j = i'
      · simp only [if_pos q]
      · simp only [if_neg q])
  · have z21 : (roS z3 t o co g).2.1 337 21 = z3.2.1 337 21 := by unfold roS; rw [sl_ok (by omega), si_2, si_2]
    have za : z2.2.1 337 21 = z.2.1 337 21 := by rw [fq.2.2.2.1 21 (by unfold mfl; omega), (b3.2.2 21 (by unfold mfl; omega)).2]
    have ya : y2.2.1 3 15 = y.2.1 3 15 := by rw [fp.2.2.2.1, (b4.2 3 (by omega)).2, (e1 3 (by omega) (by omega)).2]
    rw [z21, c6, d6, za, ya, bu]
  · obtain ⟨s1, s2, s3, s4⟩ := rsS
    have ro : ∀ k, k ≠ 412 → k ≠ 413 → k ≠ 415 → (roS z3 t o co g).1 k = z3.1 k ∧ (roS z3 t o co g).2.1 k = z3.2.1 k := fun k a b d => by
      unfold roS
      exact ⟨by funext j; rw [sl_1, si_ok b, si_ok a], by funext j; rw [sl_ok d, si_2, si_2]⟩
    refine ⟨s1, by rw [(ro 416 (by omega) (by omega) (by omega)).1, c4]; exact s2, by rw [(d4 _ (by omega) (by omega)).1]; exact s3, fun k hk => ?_⟩
    obtain ⟨⟨p1, p2, p3⟩, q1, q2, q3⟩ := s4 k hk
    refine ⟨⟨by rw [(ro 417 (by omega) (by omega) (by omega)).1, c4]; exact p1, by rw [(ro 418 (by omega) (by omega) (by omega)).2, c5 418 (by omega) (by omega) (by omega)]; exact p2, by rw [(ro 419 (by omega) (by omega) (by omega)).2, c5 419 (by omega) (by omega) (by omega)]; exact p3⟩, by rw [(d4 _ (by omega) (by omega)).1]; exact q1, by rw [(d4 _ (by omega) (by omega)).2]; exact q2, by rw [(d4 _ (by omega) (by omega)).2]; exact q3⟩
  · have r1 : ∀ k, k ≠ 412 → k ≠ 413 → (roS z3 t o co g).1 k = z2.1 k := fun k a b => by
      unfold roS; funext j; rw [sl_1, si_ok b, si_ok a, c4]
    have r2 : ∀ k, k ≠ 415 → (roS z3 t o co g).2.1 k = z3.2.1 k := fun k a => by
      unfold roS; funext j; rw [sl_ok a, si_2, si_2]
    have z3k : ∀ k, k ≠ 339 → k ≠ 340 → k ≠ 337 → z3.2.1 k = z2.2.1 k := c5
    have mm : ∀ k, 412 ≤ k → k ≤ 419 → k ≠ 337 ∧ ¬ mcl k := fun k a b => ⟨by omega, by unfold mcl; omega⟩
    refine ⟨fun k j a => ?_, fun k a b d e => ⟨?_, ?_⟩, fun j a b d => ?_, fun j a b => ?_, fun k j a b d => ?_, fun j d => ?_, fun j => ?_, fun k j a b d => ⟨?_, ?_⟩⟩
    · show z3.2.2 k j = _
      rw [c3, fq.1]; exact b3.1 k j a
    · rw [r1 k (by omega) (by omega), (fq.2.1 k a (by intro w; subst w; exact b (by unfold mcl; omega)) d (by omega)).1]; exact (b3.2.1 k a b).1
    · rw [r2 k (by omega), z3k k (by omega) (by omega) a, (fq.2.1 k a (by intro w; subst w; exact b (by unfold mcl; omega)) d (by omega)).2]; exact (b3.2.1 k a b).2
    · rw [r1 337 (by omega) (by omega), (fq.2.2.1 j a b d).1]; exact (b3.2.2 j a).1
    · rw [r2 337 (by omega), c7 j b, fq.2.2.2.1 j a]; exact (b3.2.2 j a).2
    · have zz : z2.1 k j = z.1 k j := by
        by_cases e : k = 416
        · subst e; rw [fq.2.2.2.2.1 j d]; rw [(b3.2.1 416 (by omega) (mm 416 (by omega) (by omega)).2).1]
        · rw [(fq.2.1 k (by omega) (by omega) (by omega) (by omega)).1, (b3.2.1 k (by omega) (mm k a (by omega)).2).1]
      rw [← zz]
      unfold roS
      rw [sl_1]
      by_cases e3 : k = 413
      · subst e3; rw [si_oj d, si_ok (by omega), c4]
      · rw [si_ok e3]
        by_cases e2 : k = 412
        · subst e2; rw [si_oj d, c4]
        · rw [si_ok e2, c4]
    · have zz : z2.2.1 415 j = z.2.1 415 j := by rw [(fq.2.1 415 (by omega) (by omega) (by omega) (by omega)).2, (b3.2.1 415 (by omega) (mm 415 (by omega) (by omega)).2).2]
      rw [← zz, ← z3k 415 (by omega) (by omega) (by omega)]
      unfold roS
      rw [sl_oj d, si_2, si_2]
    · rw [r1 414 (by omega) (by omega), (fq.2.1 414 (by omega) (by omega) (by omega) (by omega)).1, (b3.2.1 414 (by omega) (mm 414 (by omega) (by omega)).2).1]
    · rw [r1 k (by omega) (by omega), (fq.2.2.2.2.2 k j a b d).1, (b3.2.1 k (by omega) (mm k (by omega) b).2).1]
    · rw [r2 k (by omega), z3k k (by omega) (by omega) (by omega), (fq.2.2.2.2.2 k j a b d).2, (b3.2.1 k (by omega) (mm k (by omega) b).2).2]
  · refine ⟨fun k j a b => ?_, fun k a b d e => ⟨?_, ?_⟩, fun j a b => ?_, fun j a => ?_, fun j a b d => ?_, fun j a => ?_⟩
    · rw [d3, fp.1, b4.1.1 k j a b, a3]
    · rw [(d4 k (by omega) (by omega)).1, (fp.2.1 k a (by omega) d e).1, (b4.2 k b).1, (e1 k (by omega) (by omega)).1]
    · rw [(d4 k (by omega) (by omega)).2, (fp.2.1 k a (by omega) d e).2, (b4.2 k b).2, (e1 k (by omega) (by omega)).2]
    · rw [d5, fp.2.2.1 j a b, (b4.2 3 (by omega)).1, (e1 3 (by omega) (by omega)).1]
    · rw [d7 j a, fp.2.2.2.1, (b4.2 3 (by omega)).2, (e1 3 (by omega) (by omega)).2]
    · rw [(d4 _ (by omega) (by omega)).1]; exact yk j a b d
    · rw [(d4 _ (by omega) (by omega)).2]; exact yl j a
  · obtain ⟨p1, p2⟩ := ldT.pay l4.1.2 (show i' < nc' by omega) (q := (ac' i').2.2 + 1) (Nat.le_trans gl (ldB i' (by omega) ni')) (show g ≤ 20000 by omega)
    refine ⟨p1, p2.cg (fun j hj => ?_), ?_⟩
    · by_cases q : j = i'
      · subst q; rw [if_pos rfl]; exact ⟨rfl, rfl⟩
      · show (if j = i' then _ else ac' j).1 = (if j = i' then _ else ac' j).1 ∧ (if j = i' then _ else ac' j).2.1 = (if j = i' then _ else ac' j).2.1
        simp only [if_neg q, and_self]
    · have z21 : (roS z3 t o co g).2.1 337 21 = z3.2.1 337 21 := by unfold roS; rw [sl_ok (by omega), si_2, si_2]
      have za : z2.2.1 337 21 = z.2.1 337 21 := by rw [fq.2.2.2.1 21 (by unfold mfl; omega), (b3.2.2 21 (by unfold mfl; omega)).2]
      rw [z21, c6, za]
  · exact ⟨by rw [(d4 88 (by omega) (by omega)).1, sl6, (e1 88 (by omega) (by omega)).1], by rw [(d4 87 (by omega) (by omega)).1, fp.2.2.2.2.1.2, b4.1.2, (e1 87 (by omega) (by omega)).1]⟩
end
