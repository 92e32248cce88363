/-! ONE TRANSACTION THAT CALLS, both sides -/
section
variable {F n : Nat} {sh : Nat → Nat × Nat} {z z' y y' : St} {ws : Nat → Md} {wc : Nat} {dp : Nat → Nat → Nat} {bs : Nat → Nat × (Nat → Nat)} {t cnt d nc nr lim rest m f c D len w l2 : Nat} {ac : Nat → Int64 × Int64 × Int64} {rs : Nat → Int64 × Nat × Hp × Nat} {so : Nat → Option Rsc} {sd sq : Int64} {kd : Nat → Nat} {hi lo : Nat → Int64}
theorem rfT_0 (h : rfT nc ac sd sq lim rest = 0) : ∃ i, fdA nc ac sd = some i ∧ (ac i).2.2 = sq ∧ lN lim ≤ (ac i).2.1 ∧ rest = 0 := by
  unfold rfT at h
  cases e : fdA nc ac sd with
  | none => rw [e] at h; cases h
  | some i =>
    rw [e] at h
    have h' : (if (ac i).2.2 = sq then (if lN lim ≤ (ac i).2.1 then rest else 3) else 2) = 0 := h
    by_cases q : (ac i).2.2 = sq
    · rw [if_pos q] at h'
      by_cases q2 : lN lim ≤ (ac i).2.1
      · rw [if_pos q2] at h'; exact ⟨i, rfl, q, q2, h'⟩
      · rw [if_neg q2] at h'; cases h'
    · rw [if_neg q] at h'; cases h'
theorem rfT_r : rfT nc ac sd sq lim rest = if rfT nc ac sd sq lim 0 = 0 then rest else rfT nc ac sd sq lim 0 := by
  unfold rfT
  cases e : fdA nc ac sd with
  | none => rfl
  | some i =>
    show (if (ac i).2.2 = sq then (if lN lim ≤ (ac i).2.1 then rest else 3) else 2) = if (if (ac i).2.2 = sq then (if lN lim ≤ (ac i).2.1 then 0 else 3) else 2) = 0 then rest else (if (ac i).2.2 = sq then (if lN lim ≤ (ac i).2.1 then 0 else 3) else 2)
    by_cases q : (ac i).2.2 = sq
    · by_cases q2 : lN lim ≤ (ac i).2.1
      · simp [q, q2]
      · simp [q, q2]
    · simp [q]
theorem rfT_le (h : rest ≤ 8) : rfT nc ac sd sq lim rest ≤ 8 := by
  unfold rfT
  cases e : fdA nc ac sd with
  | none => show 1 ≤ 8; omega
  | some i =>
    show (if (ac i).2.2 = sq then (if lN lim ≤ (ac i).2.1 then rest else 3) else 2) ≤ 8
    split
    · split <;> omega
    · omega
theorem rfU_le {U : Md} : rfU U f c kd ≤ 8 := by
  unfold rfU
  split
  · split
    · omega
    · split
      · split <;> omega
      · omega
  · omega
theorem rfN_le : rfN ws wc m f c kd ≤ 8 := by
  unfold rfN
  cases e : wfi ws m (wc + 1) 0 with
  | none => show 4 ≤ 8; omega
  | some i => exact rfU_le
theorem rfU_0 {U : Md} (h : rfU U f c kd = 0) : f < fsOf U ∧ ¬ (nI (fnOf U f).1 &&& 2 : Int32) = 0 ∧ (tksOf U f).length = c ∧ tkB (tksOf U f) kd c 0 = true ∧ gvB (gvsOf U f) (gvsOf U f).length 0 = true := by
  unfold rfU at h
  by_cases q : f < fsOf U
  · rw [if_pos q] at h
    by_cases q2 : (nI (fnOf U f).1 &&& 2 : Int32) = 0
    · rw [if_pos q2] at h; cases h
    · rw [if_neg q2] at h
      by_cases q3 : (decide ((tksOf U f).length = c) && tkB (tksOf U f) kd c 0) = true
      · rw [if_pos q3] at h
        by_cases q4 : gvB (gvsOf U f) (gvsOf U f).length 0 = true
        · rw [Bool.and_eq_true, decide_eq_true_eq] at q3
          exact ⟨q, q2, q3.1, q3.2, q4⟩
        · rw [if_neg q4] at h; cases h
      · rw [if_neg q3] at h; cases h
  · rw [if_neg q] at h; cases h
theorem rfN_0 (hN : WNo ws wc) (h : rfN ws wc m f c kd = 0) : ∃ u, 1 ≤ u ∧ u ≤ wc ∧ wfi ws m (wc + 1) 0 = some u ∧ (ws u).1.1 = m ∧ rfU (ws u) f c kd = 0 := by
  unfold rfN at h
  cases e : wfi ws m (wc + 1) 0 with
  | none => rw [e] at h; cases h
  | some u =>
    rw [e] at h
    obtain ⟨_, w2, w3⟩ := wfi_s e
    refine ⟨u, ?_, by omega, rfl, w3, h⟩
    by_cases c0 : u = 0
    · exfalso
      subst c0
      have h' : rfU (ws 0) f c kd = 0 := h
      rw [hN.1] at h'
      have := rfU_0 h'
      rw [U0_f.1] at this
      exact this.2.1 (U0_fl f this.1)
    · omega
theorem b106_m (hF : 300 ≤ F) (hW : RWo sh n z ws wc dp) (hN : WNo ws wc) (ht : t < 32) (h0 : z.1 400 t = 2) (h4 : z.1 404 t = nI m) (hm : m < 65536) (hf : f < 64) (h5 : z.1 405 t = nI f) (h7 : z.1 406 t = nI c) (hc : c ≤ 8) (hk : ∀ i, i < c → 1 ≤ kd i ∧ kd i ≤ 5) (ha : ∀ i, i < c → z.1 407 (8 * t + i) = nI (kd i)) (r25 : Int32) : fn_X18_doOne_B106 F sh n 337 (nI t) r25 z (nI (rfT nc ac sd sq lim 0)) = fn_X18_doOne_B141 F sh n 337 (nI t) (nI (wix ws wc m)) r25 z (nI (rfT nc ac sd sq lim (rfN ws wc m f c kd))) := by
  have hL := hW.1
  obtain ⟨q1, q2⟩ := refR_m hF hW hN ht h4 hm hf h5 h7 hc hk ha
  have ct : (nI t).toNatClampNeg = t := nI_clamp (by omega)
  have p8 : rfT nc ac sd sq lim 0 ≤ 8 := rfT_le (by omega)
  unfold fn_X18_doOne_B106
  rw [hL.2.2 337 58 404 rfl, lnk_s, md_at hL ht 404 101 rfl (by decide), grd_true, ct, h4, q1, cal_s, rfT_r (rest := rfN ws wc m f c kd)]
  by_cases e : rfT nc ac sd sq lim 0 = 0
  · rw [if_pos (show nI (rfT nc ac sd sq lim 0) = 0 by rw [e]; rfl), if_pos e, hL.2.2 337 54 400 rfl, lnk_s, md_at hL ht 400 101 rfl (by decide), grd_true, h0, if_pos rfl, q2, cal_s]
  · rw [if_neg (show ¬ nI (rfT nc ac sd sq lim 0) = 0 from fun q => e (nI_uq (b := 0) q (by omega) (by omega))), if_neg e]
theorem b106_p (hF : 300 ≤ F) (hW : RWo sh n z ws wc dp) (ht : t < 32) (h0 : z.1 400 t = 1) (r25 p : Int32) : ∃ i, fn_X18_doOne_B106 F sh n 337 (nI t) r25 z p = fn_X18_doOne_B141 F sh n 337 (nI t) (nI i) r25 z p := by
  have hL := hW.1
  obtain ⟨i, _, i2, _⟩ := hW.findAny (F := F) (by omega) (z.1 404 t)
  have ct : (nI t).toNatClampNeg = t := nI_clamp (by omega)
  refine ⟨i, ?_⟩
  unfold fn_X18_doOne_B106
  rw [hL.2.2 337 58 404 rfl, lnk_s, md_at hL ht 404 101 rfl (by decide), grd_true, ct, i2, cal_s, hL.2.2 337 54 400 rfl, lnk_s, md_at hL ht 400 101 rfl (by decide), grd_true, h0, if_neg (show ¬ ((1 : Int32) = 2) by decide)]
  exact ite_self _
theorem ArO.lt {E : Ev} {k : Nat} {a b : Int64} (h : ArO k a b) : 1 ≤ k ∧ k ≤ 5 ∧ LTm E k (k, a, b, []) [] := by
  obtain ⟨h1, h2, h3, h4, h5⟩ := h
  refine ⟨h1, h2, ?_⟩
  unfold LTm
  by_cases q1 : k = 1
  · exact .inl ⟨q1, q1, h3 (by omega), h4 q1, rfl⟩
  · by_cases q2 : k = 2
    · exact .inr (.inl ⟨q2, q2, h3 (by omega), ⟨N b, h5 q2, (lN_N b).symm⟩, rfl⟩)
    · by_cases q4 : k = 4
      · exact .inr (.inr (.inr (.inl ⟨q4, q4, rfl⟩)))
      · exact .inr (.inr (.inl ⟨by omega, rfl, h3 q4, rfl⟩))
theorem N_ge {x : Int64} {k : Nat} (h : lN k ≤ x) (hk : k ≤ 20000) : k ≤ N x := by
  rw [Int64.le_iff_toInt_le] at h
  have e1 : (lN k).toInt = k := by
    have e2 := BitVec.toInt_eq_toNat_cond (lN k).toBitVec
    have e3 : (lN k).toBitVec.toNat = k := lN_nat (by omega)
    have e4 : (lN k).toInt = (lN k).toBitVec.toInt := rfl
    rw [e3] at e2
    split at e2 <;> omega
  have e : x.toInt = x.toBitVec.toInt := rfl
  have e2 := BitVec.toInt_eq_toNat_cond x.toBitVec
  have e3 := N_lt x
  unfold N at e3 ⊢
  split at e2 <;> omega
theorem turn_m (hF : 20002 ≤ F) (hn : n ≤ 10 ^ 12) (a1 : Wor sh n z y ws wc dp bs) (lg : Lgr z y ws wc dp nc ac nr rs so D) (a4 : Bk2 sh n z y cnt d) (a5 : Tap z y len w) (a6 : Akd z y l2) (hd : d < cnt)
    (s1 : y.2.1 (113 + 7 * d) 1 = sd) (s1' : z.2.1 401 d = sd) (s2 : y.2.1 (113 + 7 * d) 2 = sq) (s2' : z.2.1 402 d = sq) (hl : lim ≤ 20000) (s3 : y.1 (113 + 7 * d) 3 = nI lim) (s3' : z.1 403 d = nI lim)
    (p1 : y.1 (113 + 7 * d) 0 = 1) (p2 : z.1 400 d = 2) (p3 : m < 65536) (p4 : f < 64) (p5 : c ≤ 8) (p6 : y.1 (113 + 7 * d) 4 = nI m) (p7 : y.1 (113 + 7 * d) 5 = nI f) (p8 : y.1 (113 + 7 * d) 7 = nI c) (p9 : z.1 404 d = nI m) (p10 : z.1 405 d = nI f) (p11 : z.1 406 d = nI c)
    (p12 : ∀ i, i < c → ArO (kd i) (hi i) (lo i) ∧ (y.1 (113 + 7 * d + 1) i = nI (kd i) ∧ y.2.1 (113 + 7 * d + 2) i = hi i ∧ y.2.1 (113 + 7 * d + 3) i = lo i) ∧ z.1 407 (8 * d + i) = nI (kd i) ∧ z.2.1 408 (8 * d + i) = hi i ∧ z.2.1 409 (8 * d + i) = lo i) (hr : rfT nc ac sd sq lim (rfN ws wc m f c kd) = 0) :
    ∃ z' y' o, Tp2 sh n z' y' cnt (d + 1) ∧ z'.1 412 d = nI o ∧ o ≤ 4 ∧ fn_X18_doOne F sh n z 337 (nI d) = some (z', ()) ∧ ∀ g p, fn_X11_execute_L21 F sh n 0 (g + 1) y p (nI d) = fn_X11_execute_L21 F sh n 0 g y' (if o = 0 then p + 1 else p) (nI (d + 1)) := by
  obtain ⟨⟨b1, b2, b3, b4, b5⟩, ⟨⟨led, lq, ls⟩, d62⟩, ⟨m1, m2, m3⟩, b6, b7⟩ := lg
  have c32 := a4.1.2.2
  have ht : d < 32 := by omega
  have hL := a1.1.1
  have hC := a1.2.1.1
  have hS := a1.2.2.1
  have hN := hS.1
  obtain ⟨i, fi, _, bal, rn⟩ := rfT_0 hr
  obtain ⟨u, u1, u2, u3, u4, u5⟩ := rfN_0 hN rn
  obtain ⟨f1, _, f3, f4, f5⟩ := rfU_0 u5
  have hk : ∀ i, i < c → 1 ≤ kd i ∧ kd i ≤ 5 := fun i hi' => ⟨(p12 i hi').1.1, (p12 i hi').1.2.1⟩
  have Wd : Wor sh n (doS z d sd lim) y ws wc dp bs := a1.of (hL.of rfl) hC (doS_f (by unfold rfl7; omega)).1 (fun k q => doS_1 (by omega) (by omega) (by omega)) rfl (fun _ _ _ => rfl) (fun _ _ => ⟨rfl, rfl⟩)
  have LD := Wd.1.1
  obtain ⟨Ce, wd⟩ := hS.wld
  obtain ⟨E, eE⟩ : ∃ E, E = evW ws wc dp (fun s a k => if s = 4 then (if acT nc ac a = true then 1 else 0) else if s = 1 ∧ a = sd ∧ k = 0 then led 1 sd 0 - lim else led s a k) := ⟨_, rfl⟩
  obtain ⟨eb, ei, en⟩ := acB_at fi
  have at1 : acT nc ac sd = true := by unfold acT; rw [fi]; rfl
  have cn : Ldc E led D sd lim nc ac nr rs := by
    subst eE
    refine ⟨lq, ls, d62, by rw [eb]; exact N_ge bal hl, hl, fun s a k h4 => if_neg h4, fun a => ?_, at1⟩
    show (if (4 : Nat) = 4 then (if acT nc ac a = true then 1 else 0) else if (4 : Nat) = 1 ∧ a = sd ∧ (0 : Nat) = 0 then led 1 sd 0 - lim else led 4 a 0) ≠ 0 ↔ _
    rw [if_pos rfl]
    by_cases q : acT nc ac a = true
    · rw [if_pos q]; exact ⟨fun _ => q, fun _ => by decide⟩
    · rw [if_neg q]; exact ⟨fun w => absurd rfl w, fun w => absurd w q⟩
  have rp : RsP E E.1 nr rs so := by subst eE; exact b3
  have mcl4 : ∀ k, 399 ≤ k → ¬ mcl k := fun k hk w => by unfold mcl at w; omega
  have d1 : ∀ k, k ≠ 337 → k ≠ 414 → k ≠ 416 → (doS z d sd lim).1 k = z.1 k := fun k a b c => doS_1 a b c
  have d2 : ∀ k, k ≠ 337 → (doS z d sd lim).2.1 k = z.2.1 k := fun k a => doS_2 a
  obtain ⟨x1, x2, x3, x4, x5, x6⟩ := doS_v (z := z) (t := d) (sd := sd) (lim := lim)
  have rx : RxA sh n (doS z d sd lim) d c f kd hi lo := by
    refine ⟨405, 406, 407, 408, 409, ⟨LD.2.2 337 59 405 rfl, LD.2.2 337 60 406 rfl, LD.2.2 337 61 407 rfl, LD.2.2 337 62 408 rfl, LD.2.2 337 63 409 rfl⟩, ⟨by omega, mcl4 _ (by omega), by omega, mcl4 _ (by omega), by omega, mcl4 _ (by omega), by omega, mcl4 _ (by omega), by omega, mcl4 _ (by omega)⟩, ⟨md_at LD ht 405 101 rfl (by decide), md_at LD ht 406 101 rfl (by decide)⟩, by rw [d1 405 (by omega) (by omega) (by omega)]; exact p10, by rw [d1 406 (by omega) (by omega) (by omega)]; exact p11, fun i hi' => ⟨⟨?_, ?_, ?_⟩, ?_, ?_, ?_⟩⟩
    · rw [lay_a LD 407 100 256 (by decide) rfl]; exact okI_nI (by omega) (by omega)
    · rw [lay_a LD 408 102 256 (by decide) rfl]; exact okI_nI (by omega) (by omega)
    · rw [lay_a LD 409 102 256 (by decide) rfl]; exact okI_nI (by omega) (by omega)
    · rw [d1 407 (by omega) (by omega) (by omega)]; exact (p12 i hi').2.2.1
    · rw [d2 408 (by omega)]; exact (p12 i hi').2.2.2.1
    · rw [d2 409 (by omega)]; exact (p12 i hi').2.2.2.2
  obtain ⟨g1, g2, g3, g4, g5, g6⟩ := tx_s2 d ht
  have tx : TxA sh n y (113 + 7 * d) c kd hi lo := by
    refine ⟨113 + 7 * d + 1, 113 + 7 * d + 2, 113 + 7 * d + 3, p8, hC.2.2 _ 8 _ g4, hC.2.2 _ 9 _ g5, hC.2.2 _ 10 _ g6, ⟨by omega, by omega, by omega⟩, fun i hi' => ⟨⟨?_, ?_, ?_⟩, (p12 i hi').2.1.1, (p12 i hi').2.1.2.1, (p12 i hi').2.1.2.2⟩⟩
    · rw [lay_a hC _ 101 8 (by omega) g1]; exact okI_nI (by omega) (by omega)
    · rw [lay_a hC _ 102 8 (by omega) g2]; exact okI_nI (by omega) (by omega)
    · rw [lay_a hC _ 102 8 (by omega) g3]; exact okI_nI (by omega) (by omega)
  obtain ⟨⟨ub, ul, uM, v1, v2, v3, v4, v5⟩, _⟩ := a1.1.2.2.2 u (by omega) (by omega)
  have tbs := tbs_of (f := f) (fun q hq => (v1.1.2.2.2.2 q hq).2) v1.2.2 v3 (by rw [v2] at f1; exact f1)
  have gp : ∀ k, k < (gvsOf (ws u) f).length → ∃ q, 1 ≤ q ∧ q ≤ 5 ∧ (gvsOf (ws u) f).getD k [] = [q] := fun k hk' => by
    refine TB.plain ?_ (gvB_t _ 0 f5 k (by omega) (by omega))
    rw [v2] at hk' ⊢
    exact tbs.2.1 _ (getT_mem hk')
  obtain ⟨y1, z2, y2, z3, y3, e1, e2, e3, e4, e5, Ly2, o, co, gg, nc', ac', nr', rs', so', h, kd', hi', lo', ⟨o3, o4⟩, ⟨o5, o6, o7⟩, ⟨o8, o9, o10⟩, ⟨l1, l2', l3, l4, l5⟩, bu, rS, fR, fC, ⟨gD, ldT', bD⟩, sl1, sl2⟩ := turn_call (E := E) (F := F) (sh := sh) (n := n) (z := doS z d sd lim) (y := y) (t := d) (u := u) (f := f) (c := c) (U := ws u) (md := wc) (kd := kd) (hi := hi) (lo := lo) (lim := lim) (sd := sd) (i := i) (D := D) (led := led) (x2 := oI (fdA nc ac sd)) hF (by subst eE; exact hS.evOk) (by subst eE; exact hS.evA) (by subst eE; exact hS.evC) (by rw [b7]; decide) (by subst eE; exact wd _) (lgW_of hS) (dyT_of (by omega) hS Wd.1 Wd.2.1) (doS_rl b1) b2 rp b4 Wd.1.2.1 Wd.2.1.2.1 b5 fi (by rw [(doS_f (by unfold rfl7; omega)).2]; exact m2) LD x4 x3 x2 hl x1 rx (by rw [d1 404 (by omega) (by omega) (by omega), u4]; exact p9) x5 hC s3 s1 (by rw [u4]; exact p6) p7 tx (a4.2.2.2 d (by omega) hd) (by unfold msW; rw [if_pos ⟨u1, u2⟩]) f1 f3 (fun i hi' => tkB_t c 0 f4 i (by omega) (by omega)) (by rw [v2]; exact tbs.2.2.2.1) gp ht (fun i hi' => (p12 i hi').1.lt) cn
  obtain ⟨y1', h1, h2, h3, h4⟩ := ccharge (F := F) (kt := 113 + 7 * d) (by omega) hC b2 (lay_o hC _ 8 0 (by omega) (tx_sh d ht).1) s1 s3 (by omega) fi (by omega)
  have ey : y1' = y1 := by rw [e1] at h1; exact (Prod.mk.inj (Option.some.inj h1)).1.symm
  subst ey
  have L1 : Lay sh n y1' := hC.of h3
  have TR : TbR (doS z d sd lim) z3 := ⟨fR.1, fun k q1 q2 => fR.2.1 k (by omega) (mcl4 k (by omega)) (by omega) (by omega), fR.2.2.1 5 (by unfold mfl; omega) (by omega) (by omega)⟩
  have TC : TbC y y3 := ⟨fC.1, fun k q => fC.2.1 k (by omega) (by omega) (by omega) (by omega), fC.2.2.1 5 (by omega) (by omega)⟩
  have L3 : Lay sh n z3 := TR.lay LD
  have Ly3 : Lay sh n y3 := TC.lay hC
  have zk : ∀ k, 399 ≤ k → ¬ (412 ≤ k ∧ k ≤ 419) → z3.1 k = z.1 k ∧ z3.2.1 k = z.2.1 k := fun k q1 q2 => ⟨by rw [(fR.2.1 k (by omega) (mcl4 k q1) (by omega) q2).1, d1 k (by omega) (by omega) (by omega)], by rw [(fR.2.1 k (by omega) (mcl4 k q1) (by omega) q2).2, d2 k (by omega)]⟩
  have zf : ∀ j, ¬ mfl j → ¬ rfl7 j → j ≠ 3 → j ≠ 9 → z3.1 337 j = z.1 337 j := fun j a b c e => by rw [fR.2.2.1 j a c e, (doS_f b).1]
  refine ⟨z3, y3, o, ⟨ws, wc, dp, bs, nc', ac', nr', rs', so', D - gg, Wd.of L3 Ly3 TR.2.2 (fun k q => ?_) TC.2.2 (fun k q1 q2 => TC.1 k 0 (by omega) (by omega)) (fun k q => TC.2.1 k q), ⟨⟨l1, l2', by subst eE; exact l3, l4, l5⟩, ⟨by subst eE; exact ldT', by omega⟩, ⟨?_, bu, ?_⟩, ?_, ?_⟩, a4.step hd (zf 52 (by unfold mfl; omega) (by unfold rfl7; omega) (by omega) (by omega)) (by rw [(fC.2.1 0 (by omega) (by omega) (by omega) (by omega)).1]) (fun t ht' => ⟨?_, fun hne => ?_⟩) (fun t ht' => ⟨?_, fun hne => ?_⟩) ?_ hn, ⟨len, w, a5.of ⟨zf 50 (by unfold mfl; omega) (by unfold rfl7; omega) (by omega) (by omega), zf 51 (by unfold mfl; omega) (by unfold rfl7; omega) (by omega) (by omega), (zk 399 (by omega) (by omega)).1⟩ ⟨by rw [(fC.2.1 0 (by omega) (by omega) (by omega) (by omega)).1], by rw [(fC.2.1 0 (by omega) (by omega) (by omega) (by omega)).1], (fC.2.1 1 (by omega) (by omega) (by omega) (by omega)).1⟩⟩, l2, a6.of ⟨zf 75 (by unfold mfl; omega) (by unfold rfl7; omega) (by omega) (by omega), (zk 420 (by omega) (by omega)).1⟩ ⟨by rw [(fC.2.1 0 (by omega) (by omega) (by omega) (by omega)).1], (fC.2.1 86 (by omega) (by omega) (by omega) (by omega)).1⟩⟩, o5, by omega, ?_, fun g p => ?_⟩
  · by_cases q3 : k = 342
    · subst q3
      exact (fR.2.1 342 (by omega) (by unfold mcl; omega) (by omega) (by omega)).1
    · exact (TR.2.1 k (by omega) (by omega)).1
  · rw [fR.2.2.2.1 20 (by unfold mfl; omega) (by omega), (doS_f (by unfold rfl7; omega)).2, fC.2.2.2.1 14 (by omega)]; exact m1
  · rw [fR.2.2.2.1 20 (by unfold mfl; omega) (by omega), (doS_f (by unfold rfl7; omega)).2, bD, (doS_f (by unfold rfl7; omega)).2]
    have es : lN (D - gg) = lN D - lN gg := by
      apply N_inj
      rw [N_sub, N_lN (by omega), N_lN (by omega), N_lN (by omega)]
      omega
    rw [es, ← m3, Int64.sub_eq_add_neg, Int64.sub_eq_add_neg, Int64.sub_eq_add_neg, Int64.add_assoc, Int64.neg_add, Int64.sub_eq_add_neg]
  · rw [zf 22 (by unfold mfl; omega) (by unfold rfl7; omega) (by omega) (by omega), sl1]; exact b6
  · rw [sl1]; exact b7
  · exact ⟨fun k q => by rw [(zk k (by omega) (by omega)).1], by rw [(zk 401 (by omega) (by omega)).2], by rw [(zk 402 (by omega) (by omega)).2], fun i _ => ⟨by rw [(zk 407 (by omega) (by omega)).1], by rw [(zk 408 (by omega) (by omega)).2], by rw [(zk 409 (by omega) (by omega)).2]⟩, fun p _ => by rw [(zk 410 (by omega) (by omega)).1]⟩
  · refine ⟨fun k q => ?_, ?_, fun i _ => ⟨?_, ?_, ?_⟩⟩
    · rcases q with q | q | q | q
      · subst q; rw [fR.2.2.2.2.1 412 t (by omega) (by omega) hne, d1 412 (by omega) (by omega) (by omega)]
      · subst q; rw [fR.2.2.2.2.1 413 t (by omega) (by omega) hne, d1 413 (by omega) (by omega) (by omega)]
      · subst q; rw [fR.2.2.2.2.2.2.1 t, (doS_4 hne).1]
      · subst q; rw [fR.2.2.2.2.1 416 t (by omega) (by omega) hne, (doS_4 hne).2]
    · rw [fR.2.2.2.2.2.1 t hne, d2 415 (by omega)]
    · rw [(fR.2.2.2.2.2.2.2 417 (8 * t + i) (by omega) (by omega) (by omega)).1, d1 417 (by omega) (by omega) (by omega)]
    · rw [(fR.2.2.2.2.2.2.2 418 (8 * t + i) (by omega) (by omega) (by omega)).2, d2 418 (by omega)]
    · rw [(fR.2.2.2.2.2.2.2 419 (8 * t + i) (by omega) (by omega) (by omega)).2, d2 419 (by omega)]
  · by_cases q : t = d
    · subst q
      exact ⟨fun j hj => fC.2.2.2.2.1 j (by omega) (by omega) (by omega), fC.2.2.2.2.2 1 (by omega), fC.2.2.2.2.2 2 (by omega), fC.1 _ _ (by omega) (by omega), fun i _ => ⟨by rw [(fC.2.1 _ (by omega) (by omega) (by omega) (by omega)).1], by rw [(fC.2.1 _ (by omega) (by omega) (by omega) (by omega)).2], by rw [(fC.2.1 _ (by omega) (by omega) (by omega) (by omega)).2]⟩, fun k k1 _ => (fC.2.1 k (by omega) (by omega) (by omega) (by omega)).1⟩
    · exact ⟨fun j _ => by rw [(fC.2.1 _ (by omega) (by omega) (by omega) (by omega)).1], by rw [(fC.2.1 _ (by omega) (by omega) (by omega) (by omega)).2], by rw [(fC.2.1 _ (by omega) (by omega) (by omega) (by omega)).2], fC.1 _ _ (by omega) (by omega), fun i _ => ⟨by rw [(fC.2.1 _ (by omega) (by omega) (by omega) (by omega)).1], by rw [(fC.2.1 _ (by omega) (by omega) (by omega) (by omega)).2], by rw [(fC.2.1 _ (by omega) (by omega) (by omega) (by omega)).2]⟩, fun k k1 _ => (fC.2.1 k (by omega) (by omega) (by omega) (by omega)).1⟩
  · exact ⟨fun j _ => by rw [(fC.2.1 _ (by omega) (by omega) (by omega) (by omega)).1], by rw [(fC.2.1 _ (by omega) (by omega) (by omega) (by omega)).2], fun i _ => ⟨by rw [(fC.2.1 _ (by omega) (by omega) (by omega) (by omega)).1], by rw [(fC.2.1 _ (by omega) (by omega) (by omega) (by omega)).2], by rw [(fC.2.1 _ (by omega) (by omega) (by omega) (by omega)).2]⟩⟩
  · refine ⟨o, gg, co, h, kd', hi', lo', by omega, o4, ⟨o5, o6, o7, ?_⟩, ⟨o8, o9, o10⟩, rS⟩
    rw [if_neg (by omega), fR.2.2.2.2.2.2.1 d]; exact x6
  · rw [do_pre (by omega) hL b1 ht s1' s2' s3' hl, b106_m (by omega) Wd.1 hN ht (by rw [d1 400 (by omega) (by omega) (by omega)]; exact p2) (by rw [d1 404 (by omega) (by omega) (by omega)]; exact p9) p3 p4 (by rw [d1 405 (by omega) (by omega) (by omega)]; exact p10) (by rw [d1 406 (by omega) (by omega) (by omega)]; exact p11) p5 hk (fun i hi' => by rw [d1 407 (by omega) (by omega) (by omega)]; exact (p12 i hi').2.2.1), hr]
    have wi : wix ws wc m = u := by unfold wix; rw [u3]
    unfold fn_X18_doOne_B141
    rw [if_pos (show nI 0 = 0 from rfl), LD.2.2 337 54 400 rfl, lnk_s, md_at LD ht 400 101 rfl (by decide), grd_true, nI_clamp (by omega), d1 400 (by omega) (by omega) (by omega), p2, if_neg (show ¬ ((2 : Int32) = 1) by decide), wi, e2, cal_s]
    exact e4
  · have rc := refC_m (F := F) (by omega) a1.2.1 hN b2 ht s1 s2 s3 hl p1 p6 p3 p4 p7 p8 p5 hk (fun i hi' => (p12 i hi').2.1.1)
    rw [hr] at rc
    rw [cl_run hC a4.1.2.1 c32 hd rc e1 L1 g p, (h4 (113 + 7 * d) (by omega) (by omega)).1, p1, if_neg (show ¬ ((1 : Int32) = 0) by decide), e3, cal_s, cl_b91 Ly2 e5 o8 (by omega) g p]
end
