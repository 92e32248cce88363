/-! ONE TRANSACTION THAT PUBLISHES: its end on both sides -/
theorem cost_t {len : Nat} (h : len ≤ 2048) : (10 + ((nI len + 15) / 16) : Int32) = nI (10 + (len + 15) / 16) := by
  have e1 : (nI len + 15 : Int32) = nI (len + 15) := nI_add len 15
  rw [e1]
  have e2 : (nI (len + 15) / 16 : Int32) = nI ((len + 15) / 16) := by
    apply Int32.toInt_inj.mp
    rw [Int32.toInt_div, nI_toInt (by omega), nI_toInt (by omega), show (16 : Int32).toInt = 16 from rfl]
    rw [show ((len + 15 : Nat) : Int).tdiv 16 = (((len + 15) / 16 : Nat) : Int) from by rw [Int.tdiv_eq_ediv_of_nonneg (by omega)]; omega]
    rw [Int.bmod_eq_of_le (by omega) (by omega)]
  rw [e2]
  exact nI_add 10 ((len + 15) / 16)
def FrPz (d : Nat) (z z2 : St) : Prop := (∀ k, 399 ≤ k → k ≤ 420 → k ≠ 414 → k ≠ 416 → z2.1 k = z.1 k) ∧ (∀ k, 399 ≤ k → k ≤ 420 → z2.2.1 k = z.2.1 k) ∧ (∀ j, j ≠ d → z2.1 414 j = z.1 414 j ∧ z2.1 416 j = z.1 416 j) ∧ z2.1 416 d = 0 ∧ (∀ j, j = 22 ∨ j = 50 ∨ j = 51 ∨ j = 52 ∨ j = 75 → z2.1 337 j = z.1 337 j) ∧ z2.2.1 337 20 = z.2.1 337 20 ∧ z2.2.1 337 21 = z.2.1 337 21
def FrPy (kt : Nat) (y y2 : St) : Prop := (∀ t, t < 32 → y2.2.2 (113 + 7 * t) 6 = y.2.2 (113 + 7 * t) 6) ∧ (∀ k, k = 0 ∨ k = 1 ∨ k = 86 ∨ k = 87 ∨ k = 88 ∨ 113 ≤ k → k ≠ kt → y2.1 k = y.1 k) ∧ (∀ k, 113 ≤ k → k ≠ kt → y2.2.1 k = y.2.1 k) ∧ (∀ j, j ≠ 11 → j ≠ 13 → j ≠ 14 → y2.1 kt j = y.1 kt j) ∧ (∀ j, j ≠ 12 → y2.2.1 kt j = y.2.1 kt j) ∧ y2.2.1 3 = y.2.1 3
section
variable {F n : Nat} {sh : Nat → Nat × Nat} {z z2 y y1 y2 : St} {ws ws' : Nat → Md} {wc wc' : Nat} {dp dp' : Nat → Nat → Nat} {bs bs' : Nat → Nat × (Nat → Nat)} {cnt d nc nr lim D len w l2 i o g : Nat} {ac : Nat → Int64 × Int64 × Int64} {rs : Nat → Int64 × Nat × Hp × Nat} {so : Nat → Option Rsc} {sd co : Int64}
theorem pub_fin (hF : 300 ≤ F) (hn : n ≤ 10 ^ 12) (lg : Lgr z y ws wc dp nc ac nr rs so D) (a4 : Bk2 sh n z y cnt d) (a5 : Tap z y len w) (a6 : Akd z y l2) (hd : d < cnt) (fi : fdA nc ac sd = some i) (hl : lim ≤ 20000) (hg : g ≤ lim) (bal : lim ≤ N (ac i).2.1)
    (Wn : Wor sh n z2 y2 ws' wc' dp' bs') (rp' : RsP (evW ws' wc' dp' led0) (fM ws' wc') nr rs so) (ld' : LdT (evW ws' wc' dp' led0) D nc ac nr rs) (pl' : nc + wc' + nr ≤ 256)
    (rl : RLg z2 nc ac nr rs) (h24 : z2.2.1 337 24 = sd) (h27 : z2.1 337 27 = nI o) (h26 : z2.1 337 26 = nI g) (h28 : z2.2.1 337 28 = co) (fz : FrPz d z z2)
    (cg : CLg y2 nc (fun j => if j = i then ((ac j).1, (ac j).2.1 - lN lim, (ac j).2.2 + 1) else ac j) nr so) (k1 : y2.2.1 (113 + 7 * d) 1 = sd) (k3 : y2.1 (113 + 7 * d) 3 = nI lim) (k11 : y2.1 (113 + 7 * d) 11 = nI o) (k13 : y2.1 (113 + 7 * d) 13 = nI g) (k12 : y2.2.1 (113 + 7 * d) 12 = co) (fy : FrPy (113 + 7 * d) y y2) (o4 : o ≤ 4) (h414 : z2.1 414 d = if o = 4 then y2.1 (113 + 7 * d) 14 else 0) :
    ∃ z' y', fn_X18_doOne_B181 F sh n 337 (nI d) z2 = some (z', ()) ∧ fn_X7_settle F sh n y2 3 (113 + 7 * d) = some (y', ()) ∧ Tp2 sh n z' y' cnt (d + 1) ∧ z'.1 412 d = nI o ∧ y'.1 (113 + 7 * d) 11 = nI o := by
  obtain ⟨⟨b1, b2, b3, b4, b5⟩, ⟨_, d62⟩, ⟨m1, m2, m3⟩, b6, b7⟩ := lg
  have c32 := a4.1.2.2
  have ht : d < 32 := by omega
  have Lz := Wn.1.1
  have Ly := Wn.2.1.1
  obtain ⟨eb, ei, en⟩ := acB_at fi
  obtain ⟨z3, c1, c2, c3, c4, c5, c6, c7⟩ := rsettle (F := F) (t := d) (o := o) (g := g) (c := co) hF Lz rl ht h24 h27 h26 h28 (by omega) fi
  have fi' : fdA nc (fun j => if j = i then ((ac j).1, (ac j).2.1 - lN lim, (ac j).2.2 + 1) else ac j) sd = some i := by
    rw [← fi]
    exact fd_cong nc 0 (fun j _ _ => by
      by_cases q : j = i
      · simp only [if_pos q]
      · simp only [if_neg q])
  obtain ⟨y3, e1, e2, e3, e4, e5, e6, e7⟩ := csettle (F := F) (sd := sd) (kt := 113 + 7 * d) (i := i) (lim := lim) (g := g) hF Ly cg (lay_o Ly _ 8 0 (by omega) (tx_sh d ht).1) k1 k3 k13 (by omega) (by omega) fi' (by omega)
  obtain ⟨q1, q2⟩ := ld'.pay b4 ei (q := (ac i).2.2 + 1) (show g ≤ N (ac i).2.1 by omega) (show g ≤ 20000 by omega)
  have q3 : LdT (evW ws' wc' dp' led0) (D - g) nc (fun j => if j = i then ((ac j).1, (ac j).2.1 - lN g, (ac j).2.2 + 1) else ac j) nr rs := q2.cg (fun j hj => by
    by_cases q : j = i
    · simp only [if_pos q, and_self]
    · simp only [if_neg q, and_self])
  have r1 : ∀ k, k ≠ 412 → k ≠ 413 → (roS z3 d o co g).1 k = z2.1 k := fun k a b => by
    unfold roS; funext j; rw [sl_1, si_ok b, si_ok a, c4]
  have r2 : ∀ k, k ≠ 415 → (roS z3 d o co g).2.1 k = z3.2.1 k := fun k a => by
    unfold roS; funext j; rw [sl_ok a, si_2, si_2]
  have ro : (roS z3 d o co g).1 412 d = nI o ∧ (roS z3 d o co g).1 413 d = nI g ∧ (roS z3 d o co g).2.1 415 d = co := by
    unfold roS
    exact ⟨by rw [sl_1, si_ok (by omega), si_ss], by rw [sl_1, si_ss], sl_ss⟩
  have rn : ∀ j, j ≠ d → (roS z3 d o co g).1 412 j = z2.1 412 j ∧ (roS z3 d o co g).1 413 j = z2.1 413 j ∧ (roS z3 d o co g).2.1 415 j = z2.2.1 415 j := fun j hj => by
    unfold roS
    exact ⟨by rw [sl_1, si_ok (by omega), si_oj hj, c4], by rw [sl_1, si_oj hj, si_ok (by omega), c4], by rw [sl_oj hj, si_2, si_2, c5 415 (by omega) (by omega) (by omega)]⟩
  have L3 : Lay sh n (roS z3 d o co g) := (Lz.of c3).of rfl
  have L4 : Lay sh n y3 := Ly.of e3
  obtain ⟨f1, f2, f3, f4, f5, f6, f7⟩ := fz
  obtain ⟨g1, g2, g3, g4, g5, g6⟩ := fy
  have zk : ∀ k, 399 ≤ k → k ≤ 420 → ¬ (412 ≤ k ∧ k ≤ 416) → (roS z3 d o co g).1 k = z.1 k ∧ (roS z3 d o co g).2.1 k = z.2.1 k := fun k a b c => ⟨by rw [r1 k (by omega) (by omega)]; exact f1 k a b (by omega) (by omega), by rw [r2 k (by omega), c5 k (by omega) (by omega) (by omega)]; exact f2 k a b⟩
  have zf : ∀ j, j = 22 ∨ j = 50 ∨ j = 51 ∨ j = 52 ∨ j = 75 → (roS z3 d o co g).1 337 j = z.1 337 j := fun j hj => by rw [r1 337 (by omega) (by omega)]; exact f5 j hj
  have yk : ∀ k, k = 0 ∨ k = 1 ∨ k = 86 ∨ k = 87 ∨ k = 88 ∨ 113 ≤ k → k ≠ 113 + 7 * d → y3.1 k = y.1 k := fun k a b => by rw [(e4 k (by omega) (by omega)).1]; exact g2 k a b
  have yl : ∀ k, 113 ≤ k → k ≠ 113 + 7 * d → y3.2.1 k = y.2.1 k := fun k a b => by rw [(e4 k (by omega) (by omega)).2]; exact g3 k a b
  have yj : ∀ j, j ≠ 11 → j ≠ 13 → j ≠ 14 → y3.1 (113 + 7 * d) j = y.1 (113 + 7 * d) j := fun j a b c => by rw [(e4 _ (by omega) (by omega)).1]; exact g4 j a b c
  have yjl : ∀ j, j ≠ 12 → y3.2.1 (113 + 7 * d) j = y.2.1 (113 + 7 * d) j := fun j a => by rw [(e4 _ (by omega) (by omega)).2]; exact g5 j a
  have y3k : y3.1 (113 + 7 * d) = y2.1 (113 + 7 * d) ∧ y3.2.1 (113 + 7 * d) = y2.2.1 (113 + 7 * d) := e4 _ (by omega) (by omega)
  refine ⟨roS z3 d o co g, y3, c1, e1, ⟨ws', wc', dp', bs', nc, (fun j => if j = i then ((ac j).1, (ac j).2.1 - lN g, (ac j).2.2 + 1) else ac j), nr, rs, so, D - g, Wn.of L3 L4 (by rw [r1 337 (by omega) (by omega)]) (fun k q => r1 k (by omega) (by omega)) (by rw [e5]) (fun k _ _ => by rw [e3]) (fun k q => e4 k (by omega) (by omega)), ⟨⟨?_, ?_, rp', ?_, pl'⟩, ⟨q3, by omega⟩, ⟨?_, ?_, ?_⟩, ?_, ?_⟩, a4.step hd (zf 52 (by omega)) (by rw [yk 0 (by omega) (by omega)]) (fun t ht' => ⟨?_, fun hne => ?_⟩) (fun t ht' => ⟨?_, fun hne => ?_⟩) ?_ hn, ⟨len, w, a5.of ⟨zf 50 (by omega), zf 51 (by omega), (zk 399 (by omega) (by omega) (by omega)).1⟩ ⟨by rw [yk 0 (by omega) (by omega)], by rw [yk 0 (by omega) (by omega)], yk 1 (by omega) (by omega)⟩⟩, l2, a6.of ⟨zf 75 (by omega), (zk 420 (by omega) (by omega) (by omega)).1⟩ ⟨by rw [yk 0 (by omega) (by omega)], yk 86 (by omega) (by omega)⟩⟩, ro.1, by rw [y3k.1]; exact k11⟩
  · refine c2.of (fun k a b => ⟨?_, ?_⟩) ?_ ?_
    · rw [r1 k (by omega) (by omega), c4]
    · rw [r2 k (by omega)]
    · rw [r1 337 (by omega) (by omega), c4]
    · rw [r1 337 (by omega) (by omega), c4]
  · refine e2.cg (fun j hj => ?_)
    by_cases q : j = i
    · simp only [if_pos q]
      rw [i64_c]
    · simp only [if_neg q]
  · exact b4.set (fun j _ => by
      by_cases q : j = i
      · simp only [if_pos q]
      · simp only [if_neg q])
  · rw [r2 337 (by omega), c7 20 (by omega), f6, e7 14 (by omega), g6]; exact m1
  · rw [r2 337 (by omega), c6, f7, e6, g6, m2]
  · rw [r2 337 (by omega), c7 20 (by omega), c6, f6, f7]
    have es : lN (D - g) = lN D - lN g := by
      apply N_inj
      rw [N_sub, N_lN (by omega), N_lN (by omega), N_lN (by omega)]
      omega
    rw [es, ← m3, Int64.sub_eq_add_neg, Int64.sub_eq_add_neg, Int64.sub_eq_add_neg, Int64.add_assoc, Int64.neg_add, Int64.sub_eq_add_neg]
  · rw [zf 22 (by omega), yk 88 (by omega) (by omega)]; exact b6
  · rw [yk 88 (by omega) (by omega)]; exact b7
  · exact ⟨fun k q => by rw [(zk k (by omega) (by omega) (by omega)).1], by rw [(zk 401 (by omega) (by omega) (by omega)).2], by rw [(zk 402 (by omega) (by omega) (by omega)).2], fun i _ => ⟨by rw [(zk 407 (by omega) (by omega) (by omega)).1], by rw [(zk 408 (by omega) (by omega) (by omega)).2], by rw [(zk 409 (by omega) (by omega) (by omega)).2]⟩, fun p _ => by rw [(zk 410 (by omega) (by omega) (by omega)).1]⟩
  · refine ⟨fun k q => ?_, ?_, fun i _ => ⟨?_, ?_, ?_⟩⟩
    · rcases q with q | q | q | q
      · subst q; rw [(rn t hne).1, f1 412 (by omega) (by omega) (by omega) (by omega)]
      · subst q; rw [(rn t hne).2.1, f1 413 (by omega) (by omega) (by omega) (by omega)]
      · subst q; rw [r1 414 (by omega) (by omega)]; exact (f3 t hne).1
      · subst q; rw [r1 416 (by omega) (by omega)]; exact (f3 t hne).2
    · rw [(rn t hne).2.2, f2 415 (by omega) (by omega)]
    · rw [(zk 417 (by omega) (by omega) (by omega)).1]
    · rw [(zk 418 (by omega) (by omega) (by omega)).2]
    · rw [(zk 419 (by omega) (by omega) (by omega)).2]
  · by_cases q : t = d
    · subst q
      exact ⟨fun j hj => yj j (by omega) (by omega) (by omega), yjl 1 (by omega), yjl 2 (by omega), by rw [e3]; exact g1 t ht, fun i _ => ⟨by rw [yk _ (by omega) (by omega)], by rw [yl _ (by omega) (by omega)], by rw [yl _ (by omega) (by omega)]⟩, fun k k1 _ => yk k (by omega) (by omega)⟩
    · exact ⟨fun j _ => by rw [yk _ (by omega) (by omega)], by rw [yl _ (by omega) (by omega)], by rw [yl _ (by omega) (by omega)], by rw [e3]; exact g1 t ht', fun i _ => ⟨by rw [yk _ (by omega) (by omega)], by rw [yl _ (by omega) (by omega)], by rw [yl _ (by omega) (by omega)]⟩, fun k k1 _ => yk k (by omega) (by omega)⟩
  · exact ⟨fun j _ => by rw [yk _ (by omega) (by omega)], by rw [yl _ (by omega) (by omega)], fun i _ => ⟨by rw [yk _ (by omega) (by omega)], by rw [yl _ (by omega) (by omega)], by rw [yl _ (by omega) (by omega)]⟩⟩
  · refine ⟨o, g, co, 0, fun _ => 0, fun _ => 0, fun _ => 0, o4, by omega, ⟨ro.1, ro.2.1, ro.2.2, ?_⟩, ⟨by rw [y3k.1]; exact k11, by rw [y3k.1]; exact k13, by rw [y3k.2]; exact k12⟩, by omega, ?_, ?_, fun k hk => by omega⟩
    · rw [r1 414 (by omega) (by omega), y3k.1]; exact h414
    · rw [r1 416 (by omega) (by omega)]; exact f4
    · rw [yj 15 (by omega) (by omega) (by omega)]; exact a4.2.2.2 d (by omega) hd
end
