/-! ONE TRANSACTION THAT PUBLISHES, both sides -/
section
variable {F n : Nat} {sh : Nat → Nat × Nat} {z z' y y' : St} {ws : Nat → Md} {wc : Nat} {dp : Nat → Nat → Nat} {bs : Nat → Nat × (Nat → Nat)} {cnt d nc nr lim D len tl w l2 kb t o : Nat} {ac : Nat → Int64 × Int64 × Int64} {rs : Nat → Int64 × Nat × Hp × Nat} {so : Nat → Option Rsc} {sd sq c : Int64} {b : Nat → Nat}
/-- the reference ends a run -/
theorem rend (hL : Lay sh n z) (h27 : z.1 337 27 = -1) (x : Int32) (v : Int64) : fn_X18_end F sh n z 337 x v = some (sl (si z 337 27 x) 337 28 v, ()) := by
  unfold fn_X18_end
  rw [(b_model hL).1, grd_true, h27, if_pos (by decide), lt_t, lt_t]
theorem cend (ok : okO sh n t 8 = true) (v : Int64) (g : Nat) : fn_X8_end F sh n y t (nI o) v (nI g) = some (txE y t o v g, ()) := by
  unfold fn_X8_end
  rw [ok, grd_true]; rfl
theorem spend_r (hL : Lay sh n z) (h27 : z.1 337 27 = -1) (h26 : z.1 337 26 = 0) (h25 : z.1 337 25 = nI lim) (hl : lim ≤ 20000) {g : Nat} (hg : g ≤ 20000) : fn_X18_spend F sh n z 337 (nI g) = if g ≤ lim then some (si z 337 26 (nI g), 1) else some (sl (si (si z 337 26 (nI lim)) 337 27 2) 337 28 5, 0) := by
  unfold fn_X18_spend
  rw [(b_model hL).1, grd_true, goes_t hL h27, cal_s, if_neg (show ¬ ((1 : Int32) = 0) by decide), h26, h25, Int32.zero_add]
  by_cases q : g ≤ lim
  · rw [if_pos ((nI_leW (by omega) (by omega)).mpr q), if_pos q, lt_t]
  · rw [if_neg (fun e => q ((nI_leW (by omega) (by omega)).mp e)), if_neg q, lt_t, rend (z := si z 337 26 (nI lim)) (hL.of rfl) (by rw [si_oj (by omega)]; exact h27), cal_s]
def rdS (z : St) (x : Int32) (v : Int64) : St := sl (si z 337 27 x) 337 28 v
theorem rdS_k {k : Nat} {x : Int32} {v : Int64} (h : k ≠ 337) : (rdS z x v).1 k = z.1 k ∧ (rdS z x v).2.1 k = z.2.1 k := ⟨by unfold rdS; rw [sl_1, si_ok h], by unfold rdS; rw [sl_ok h, si_2]⟩
theorem rdS_f {j : Nat} {x : Int32} {v : Int64} : (j ≠ 27 → (rdS z x v).1 337 j = z.1 337 j) ∧ (j ≠ 28 → (rdS z x v).2.1 337 j = z.2.1 337 j) := ⟨fun h => by unfold rdS; rw [sl_1, si_oj h], fun h => by unfold rdS; rw [sl_oj h, si_2]⟩
theorem FrPz.en {x : Int32} {v : Int64} (h : FrPz d z z') : FrPz d z (rdS z' x v) := by
  obtain ⟨f1, f2, f3, f4, f5, f6, f7⟩ := h
  refine ⟨fun k a b c e => by rw [(rdS_k (by omega)).1]; exact f1 k a b c e, fun k a b => by rw [(rdS_k (by omega)).2]; exact f2 k a b, fun j hj => by rw [(rdS_k (by omega)).1, (rdS_k (by omega)).1]; exact f3 j hj, by rw [(rdS_k (by omega)).1]; exact f4, fun j hj => by rw [rdS_f.1 (by omega)]; exact f5 j hj, by rw [rdS_f.2 (by omega)]; exact f6, by rw [rdS_f.2 (by omega)]; exact f7⟩
theorem FrPy.tx {kt g : Nat} (hk : 113 ≤ kt) (h : FrPy kt y y') : FrPy kt y (txE y' kt o c g) := by
  obtain ⟨g1, g2, g3, g4, g5, g6⟩ := h
  obtain ⟨v1, v2, v3, v4⟩ := txE_v (z := y') (kt := kt) (o := o) (g := g) (c := c)
  refine ⟨g1, fun k a b => by rw [(txE_k b).1]; exact g2 k a b, fun k a b => by rw [(txE_k b).2]; exact g3 k a b, fun j a b e => by rw [v4 j a b]; exact g4 j a b e, fun j a => ?_, ?_⟩
  · unfold txE
    rw [si_2, sl_oj a, si_2]; exact g5 j a
  · rw [(txE_k (by omega)).2]; exact g6
theorem RLg.k342 (h : RLg z nc ac nr rs) (k : ∀ c, 338 ≤ c → c ≤ 348 → c ≠ 341 → c ≠ 342 → z'.1 c = z.1 c ∧ z'.2.1 c = z.2.1 c) (f3 : z'.1 337 3 = z.1 337 3) (f9 : z'.1 337 9 = z.1 337 9) : RLg z' nc ac nr rs := h.acc (fun c a b => k c (by omega) b (by omega) (by omega)) f3 f9 (fun i hi => by
  rw [(k 338 (by omega) (by omega) (by omega) (by omega)).2, (k 339 (by omega) (by omega) (by omega) (by omega)).2, (k 340 (by omega) (by omega) (by omega) (by omega)).2]
  exact h.1.2.2 i hi)
theorem CLg.c35 {v : Int32} (h : CLg y nc ac nr so) : CLg (si y 3 5 v) nc ac nr so := by
  obtain ⟨⟨a1, a2, a3⟩, b1, b2, b3⟩ := h
  refine ⟨⟨by rw [si_oj (by omega)]; exact a1, a2, a3⟩, by rw [si_oj (by omega)]; exact b1, b2, fun r hr => ⟨fun q => by rw [si_ok (by omega)]; exact (b3 r hr).1 q, fun x hx => ((b3 r hr).2 x hx).of (fun k k1 k2 => ⟨si_ok (by omega), rfl⟩)⟩⟩
/-- one module's bytes more -/
def bsN (bs : Nat → Nat × (Nat → Nat)) (u len : Nat) (b : Nat → Nat) : Nat → Nat × (Nat → Nat) := fun i => if i = u then (len, b) else bs i
theorem turn_p (hF : 20002 ≤ F) (hn : n ≤ 10 ^ 12) (a1 : Wor sh n z y ws wc dp bs) (lg : Lgr z y ws wc dp nc ac nr rs so D) (a4 : Bk2 sh n z y cnt d) (a5 : Tap z y tl w) (a6 : Akd z y l2) (hd : d < cnt)
    (s1 : y.2.1 (113 + 7 * d) 1 = sd) (s1' : z.2.1 401 d = sd) (s2 : y.2.1 (113 + 7 * d) 2 = sq) (s2' : z.2.1 402 d = sq) (hl : lim ≤ 20000) (hl10 : 10 ≤ lim) (s3 : y.1 (113 + 7 * d) 3 = nI lim) (s3' : z.1 403 d = nI lim)
    (p1 : y.1 (113 + 7 * d) 0 = 0) (p2 : z.1 400 d = 1) (p3 : y.2.2 (113 + 7 * d) 6 = some kb) (p4 : 513 ≤ kb) (p5 : kb < n) (p6 : kb ≠ CBK) (p7 : sh kb = (100, len)) (p8 : len ≤ 2048) (p9 : z.1 411 d = nI len) (p10 : ∀ p, p < len → y.1 kb p = z.1 410 (2048 * d + p)) (hr : rfT nc ac sd sq lim 0 = 0) :
    ∃ z' y' o, Tp2 sh n z' y' cnt (d + 1) ∧ z'.1 412 d = nI o ∧ o ≤ 4 ∧ fn_X18_doOne F sh n z 337 (nI d) = some (z', ()) ∧ ∀ g p, fn_X11_execute_L21 F sh n 0 (g + 1) y p (nI d) = fn_X11_execute_L21 F sh n 0 g y' (if o = 0 then p + 1 else p) (nI (d + 1)) := by
  have lg0 := lg
  obtain ⟨⟨b1, b2, b3, b4, b5⟩, ⟨ld, d62⟩, ⟨m1, m2, m3⟩, b6, b7⟩ := lg
  have c32 := a4.1.2.2
  have ht : d < 32 := by omega
  have hL := a1.1.1
  have hC := a1.2.1.1
  have hS := a1.2.2.1
  have hN := hS.1
  have w8 := hS.2.2.1
  obtain ⟨i, fi, _, bal, _⟩ := rfT_0 hr
  obtain ⟨eb, ei, en⟩ := acB_at fi
  have balN := N_ge bal hl
  have okT : okO sh n (113 + 7 * d) 8 = true := lay_o hC _ 8 0 (by omega) (tx_sh d ht).1
  obtain ⟨y1, h1, h2, h3, h4⟩ := ccharge (F := F) (kt := 113 + 7 * d) (by omega) hC b2 okT s1 s3 (by omega) fi (by omega)
  have Ly1 : Lay sh n y1 := hC.of h3
  have Wd : Wor sh n (doS z d sd lim) y1 ws wc dp bs := a1.of (hL.of rfl) Ly1 (doS_f (by unfold rfl7; omega)).1 (fun k q => doS_1 (by omega) (by omega) (by omega)) (by rw [(h4 3 (by omega) (by omega)).1]) (fun _ _ _ => by rw [h3]) (fun k q => h4 k (by omega) (by omega))
  have LD := Wd.1.1
  obtain ⟨x1, x2, x3, x4, x5, x6⟩ := doS_v (z := z) (t := d) (sd := sd) (lim := lim)
  have d1 : ∀ k, k ≠ 337 → k ≠ 414 → k ≠ 416 → (doS z d sd lim).1 k = z.1 k := fun k a b c => doS_1 a b c
  have d2 : ∀ k, k ≠ 337 → (doS z d sd lim).2.1 k = z.2.1 k := fun k a => doS_2 a
  obtain ⟨cost, ec⟩ : ∃ q, q = 10 + (len + 15) / 16 := ⟨_, rfl⟩
  have c150 : cost ≤ 150 := by omega
  have rc := refC_p (F := F) (by omega) hC b2 ht s1 s2 s3 hl p1
  rw [hr] at rc
  have FD : ∀ z2 : St, (∀ k, k ≠ 337 → k < 421 → 399 ≤ k → z2.1 k = (doS z d sd lim).1 k ∧ z2.2.1 k = (doS z d sd lim).2.1 k) → (∀ j, j = 22 ∨ j = 50 ∨ j = 51 ∨ j = 52 ∨ j = 75 → z2.1 337 j = (doS z d sd lim).1 337 j) → z2.2.1 337 20 = (doS z d sd lim).2.1 337 20 → z2.2.1 337 21 = (doS z d sd lim).2.1 337 21 → FrPz d z z2 := fun z2 q1 q2 q3 q4 => ⟨fun k a b c e => by rw [(q1 k (by omega) (by omega) a).1]; exact d1 k (by omega) c e, fun k a b => by rw [(q1 k (by omega) (by omega) a).2]; exact d2 k (by omega), fun j hj => by rw [(q1 414 (by omega) (by omega) (by omega)).1, (q1 416 (by omega) (by omega) (by omega)).1]; exact doS_4 hj, by rw [(q1 416 (by omega) (by omega) (by omega)).1]; exact x5, fun j hj => by rw [q2 j hj]; exact (doS_f (by unfold rfl7; omega)).1, by rw [q3]; exact (doS_f (by unfold rfl7; omega)).2, by rw [q4]; exact (doS_f (by unfold rfl7; omega)).2⟩
  -- from both ends
  have fin : ∀ (z2 y2 : St) (o : Nat), fn_X18_publishOne F sh n (doS z d sd lim) 337 (nI d) = some (z2, ()) → fn_X11_takeModule F sh n y1 0 (113 + 7 * d) = some (y2, ()) → Lay sh n y2 → o ≤ 4 → (∃ z' y', fn_X18_doOne_B181 F sh n 337 (nI d) z2 = some (z', ()) ∧ fn_X7_settle F sh n y2 3 (113 + 7 * d) = some (y', ()) ∧ Tp2 sh n z' y' cnt (d + 1) ∧ z'.1 412 d = nI o ∧ y'.1 (113 + 7 * d) 11 = nI o) → ∃ z' y' o, Tp2 sh n z' y' cnt (d + 1) ∧ z'.1 412 d = nI o ∧ o ≤ 4 ∧ fn_X18_doOne F sh n z 337 (nI d) = some (z', ()) ∧ ∀ g p, fn_X11_execute_L21 F sh n 0 (g + 1) y p (nI d) = fn_X11_execute_L21 F sh n 0 g y' (if o = 0 then p + 1 else p) (nI (d + 1)) := by
    intro z2 y2 o q1 q2 Ly2 o4 ⟨z', y', q3, q4, q5, q6, q7⟩
    refine ⟨z', y', o, q5, q6, o4, ?_, fun g p => ?_⟩
    · obtain ⟨j, ej⟩ := b106_p (F := F) (by omega) Wd.1 ht (by rw [d1 400 (by omega) (by omega) (by omega)]; exact p2) (oI (fdA nc ac sd)) (nI (rfT nc ac sd sq lim 0))
      rw [do_pre (by omega) hL b1 ht s1' s2' s3' hl, ej, hr]
      unfold fn_X18_doOne_B141
      rw [if_pos (show nI 0 = 0 from rfl), LD.2.2 337 54 400 rfl, lnk_s, md_at LD ht 400 101 rfl (by decide), grd_true, nI_clamp (by omega), d1 400 (by omega) (by omega) (by omega), p2, if_pos rfl, q1, cal_s]
      exact q3
    · rw [cl_run hC a4.1.2.1 c32 hd rc h1 Ly1 g p, (h4 (113 + 7 * d) (by omega) (by omega)).1, p1, if_pos rfl, q2, cal_s, cl_b91 Ly2 q4 q7 o4 g p]
  have k6 : y1.2.2 (113 + 7 * d) 6 = some kb := by rw [h3]; exact p3
  have okb : okO sh n kb 100 = true := okO_of p5 (by rw [p7])
  have kt1 : y1.1 (113 + 7 * d) = y.1 (113 + 7 * d) ∧ y1.2.1 (113 + 7 * d) = y.2.1 (113 + 7 * d) := h4 _ (by omega) (by omega)
  have pub0 : fn_X18_publishOne F sh n (doS z d sd lim) 337 (nI d) = cal (fn_X18_spend F sh n (doS z d sd lim) 337 (nI cost)) (fun z_6 r_7 => if (r_7 : Int32) = 0 then some (z_6, ()) else if ((z_6.1 337 5) : Int32) = 8 then cal (fn_X18_end F sh n z_6 337 2 4) (fun z_32 _ => some (z_32, ())) else lnk (z_6.2.2 337 64) (fun k_11 => cal (fn_X18_takeModule F sh n z_6 337 k_11 (2048 * nI d) (nI len) ((z_6.1 337 5) + 1)) (fun z_12 r_13 => if (r_13 : Int32) = 0 then cal (fn_X18_placeCount F sh n z_12 337) (fun z_16 r_17 => if (r_17 : Int32) = 256 then cal (fn_X18_end F sh n z_16 337 2 4) (fun z_24 _ => some (z_24, ())) else lt_ (si z_16 337 5 ((z_16.1 337 5) + 1)) (fun z_21 => cal (fn_X18_end F sh n z_21 337 0 0) (fun z_22 _ => some (z_22, ())))) else lnk (z_12.2.2 337 68) (fun k_26 => grd (okA sh n k_26 101 (nI d)) (lt_ (si z_12 k_26 (nI d).toNatClampNeg (z_12.1 337 23)) (fun z_29 => cal (fn_X18_end F sh n z_29 337 4 ((r_13 : Int32).toInt64)) (fun z_30 _ => some (z_30, ())))))))) := by
    unfold fn_X18_publishOne
    rw [(b_model LD).1, grd_true, LD.2.2 337 65 411 rfl, lnk_s, md_at LD ht 411 101 rfl (by decide), grd_true, nI_clamp (by omega), d1 411 (by omega) (by omega) (by omega), p9, lt_t, lt_t, cost_t p8, ← ec]
  have tm0 : fn_X11_takeModule F sh n y1 0 (113 + 7 * d) = if cost ≤ lim then (if wc < 8 then cal (fn_X5_lay F sh n y1 (15 + 5 * (wc + 1)) kb) (fun z_18 _ => lnk (z_18.2.2 0 7) (fun k_21 => grd (okO sh n k_21 6) (cal (fn_X6_read F sh n z_18 k_21 (15 + 5 * (wc + 1))) (fun z_22 r_23 => lnk (z_22.2.2 0 7) (fun k_26 => grd (okO sh n k_26 6) (lt_ (si z_22 (113 + 7 * d) 14 (z_22.1 k_26 0)) (fun z_29 => if (r_23 : Int32) = 0 then cal (fn_X11_misfitOf F sh n z_29 0 (15 + 5 * (wc + 1)) (113 + 7 * d)) (fun z_62 r_63 => fn_X11_takeModule_B118 F sh n 0 (15 + 5 * (wc + 1)) (113 + 7 * d) (nI cost) z_62 r_63) else fn_X11_takeModule_B118 F sh n 0 (15 + 5 * (wc + 1)) (113 + 7 * d) (nI cost) z_29 r_23))))))) else some (txE y1 (113 + 7 * d) 2 4 cost, ())) else some (txE y1 (113 + 7 * d) 2 5 lim, ()) := by
    have l31 : (sh kb).2 = len := by rw [p7]
    unfold fn_X11_takeModule
    rw [okT, grd_true, k6, lnk_s, okb, grd_true, l31, show (Int32.ofNat len : Int32) = nI len from rfl, cost_t p8, ← ec, lt_t, kt1.1, s3]
    by_cases q : cost ≤ lim
    · rw [if_pos ((nI_leW (by omega) (by omega)).mpr q), if_pos q, (b_ledg Ly1).1, grd_true, (b_ledg Ly1).2.2.2.1, lnk_s, (b_state Ly1).1, grd_true, Wd.2.1.2.1]
      by_cases q8 : wc < 8
      · have ip : isP (15 + 5 * (wc + 1)) := ⟨wc + 1, by omega, rfl⟩
        rw [if_pos (show nI wc < 8 from (nI_ltW (b := 8) (by omega) (by omega)).mpr q8), if_pos q8, lnk_s, (b_state Ly1).1, grd_true, (b_state Ly1).2.2.2.2.1, lnk_s, lnk_s, (b_state Ly1).1, grd_true, Wd.2.1.2.1, show nI wc + 1 = nI (wc + 1) from nI_add wc 1, lay_a Ly1 7 104 9 (by decide) rfl, okI_nI (by omega) (by omega), grd_true, nI_clamp (by omega), Ly1.2.2 7 (wc + 1) (15 + 5 * (wc + 1)) (by unfold lkF; rw [if_neg (by omega), if_neg (by omega), if_neg (by omega), if_pos rfl, if_pos (by omega)]), lnk_s, lnk_s, (b_prog Ly1 ip).1, grd_true]
      · rw [if_neg (show ¬ nI wc < 8 from fun e => q8 ((nI_ltW (b := 8) (by omega) (by omega)).mp e)), if_neg q8, show (2 : Int32) = nI 2 from rfl, cend okT, cal_s]
    · rw [if_neg (fun e => q ((nI_leW (by omega) (by omega)).mp e)), if_neg q, show (2 : Int32) = nI 2 from rfl, cend okT, cal_s]
  have Fy1 : FrPy (113 + 7 * d) y y1 := ⟨fun t _ => by rw [h3], fun k a _ => (h4 k (by omega) (by omega)).1, fun k a _ => (h4 k (by omega) (by omega)).2, fun j _ _ _ => by rw [kt1.1], fun j _ => by rw [kt1.2], (h4 3 (by omega) (by omega)).2⟩
  have go : ∀ (zb yb : St) (ws' : Nat → Md) (wc' : Nat) (dp' : Nat → Nat → Nat) (bs' : Nat → Nat × (Nat → Nat)) (o g : Nat) (co : Int64), fn_X18_publishOne F sh n (doS z d sd lim) 337 (nI d) = some (rdS zb (nI o) co, ()) → fn_X11_takeModule F sh n y1 0 (113 + 7 * d) = some (txE yb (113 + 7 * d) o co g, ()) → Wor sh n zb yb ws' wc' dp' bs' → RsP (evW ws' wc' dp' led0) (fM ws' wc') nr rs so → LdT (evW ws' wc' dp' led0) D nc ac nr rs → nc + wc' + nr ≤ 256 → RLg zb nc ac nr rs → zb.2.1 337 24 = sd → zb.1 337 26 = nI g → g ≤ lim → FrPz d z zb → CLg yb nc (fun j => if j = i then ((ac j).1, (ac j).2.1 - lN lim, (ac j).2.2 + 1) else ac j) nr so → FrPy (113 + 7 * d) y yb → o ≤ 4 → (zb.1 414 d = if o = 4 then yb.1 (113 + 7 * d) 14 else 0) → ∃ z' y' o, Tp2 sh n z' y' cnt (d + 1) ∧ z'.1 412 d = nI o ∧ o ≤ 4 ∧ fn_X18_doOne F sh n z 337 (nI d) = some (z', ()) ∧ ∀ g p, fn_X11_execute_L21 F sh n 0 (g + 1) y p (nI d) = fn_X11_execute_L21 F sh n 0 g y' (if o = 0 then p + 1 else p) (nI (d + 1)) := by
    intro zb yb ws' wc' dp' bs' o g co q1 q2 q3 q4 q5 q6 q7 q8 q9 q10 q11 q12 q13 q14 q15
    have Lz2 : Lay sh n (rdS zb (nI o) co) := q3.1.1.of rfl
    have Ly2 : Lay sh n (txE yb (113 + 7 * d) o co g) := q3.2.1.1.of rfl
    obtain ⟨v1, v2, v3, v4⟩ := txE_v (z := yb) (kt := 113 + 7 * d) (o := o) (g := g) (c := co)
    have fy := FrPy.tx (o := o) (c := co) (g := g) (by omega) q13
    refine fin _ _ o q1 q2 Ly2 q14 (pub_fin (by omega) hn lg0 a4 a5 a6 hd fi hl q10 balN (q3.of Lz2 Ly2 (rdS_f.1 (by omega)) (fun k q => (rdS_k (by omega)).1) (by rw [(txE_k (by omega)).1]) (fun _ _ _ => rfl) (fun k q => txE_k (by omega))) q4 q5 q6 (q7.of (fun k a b => rdS_k (by omega)) (rdS_f.1 (by omega)) (rdS_f.1 (by omega))) (by rw [rdS_f.2 (by omega)]; exact q8) (by unfold rdS; rw [sl_1, si_ss]) (by rw [rdS_f.1 (by omega)]; exact q9) (by unfold rdS; rw [sl_ss]) q11.en (q12.txE (by omega)) ?_ ?_ v1 v3 v2 fy q14 ?_)
    · rw [fy.2.2.2.2.1 1 (by omega)]; exact s1
    · rw [fy.2.2.2.1 3 (by omega) (by omega) (by omega)]; exact s3
    · rw [(rdS_k (by omega)).1, v4 14 (by omega) (by omega)]; exact q15
  have FZ : ∀ v, FrPz d z (si (doS z d sd lim) 337 26 v) := fun v => FD _ (fun k a _ _ => ⟨si_ok a, rfl⟩) (fun j hj => si_oj (by omega)) rfl rfl
  have W26 : ∀ v, Wor sh n (si (doS z d sd lim) 337 26 v) y1 ws wc dp bs := fun v => Wd.of (LD.of rfl) Ly1 (si_oj (by omega)) (fun k q => si_ok (by omega)) rfl (fun _ _ _ => rfl) (fun _ _ => ⟨rfl, rfl⟩)
  have R26 : ∀ v, RLg (si (doS z d sd lim) 337 26 v) nc ac nr rs := fun v => (doS_rl b1).of (fun k a b => ⟨si_ok (by omega), rfl⟩) (si_oj (by omega)) (si_oj (by omega))
  by_cases qc : cost ≤ lim
  · by_cases q8 : wc < 8
    · rw [if_pos qc, if_pos q8] at tm0
      obtain ⟨z1, ez1⟩ : ∃ q, q = si (doS z d sd lim) 337 26 (nI cost) := ⟨_, rfl⟩
      have W1 : Wor sh n z1 y1 ws wc dp bs := by rw [ez1]; exact W26 _
      have L1 := W1.1.1
      have z1k : ∀ k, k ≠ 337 → z1.1 k = (doS z d sd lim).1 k ∧ z1.2.1 k = (doS z d sd lim).2.1 k := fun k a => by rw [ez1]; exact ⟨si_ok a, rfl⟩
      have z1f : ∀ j, j ≠ 26 → z1.1 337 j = (doS z d sd lim).1 337 j := fun j a => by rw [ez1]; exact si_oj a
      have z1l : z1.2.1 337 = (doS z d sd lim).2.1 337 := by rw [ez1]; rfl
      have z126 : z1.1 337 26 = nI cost := by rw [ez1]; exact si_ss
      obtain ⟨b, eb'⟩ : ∃ b : Nat → Nat, b = fun p => bOf (z.1 410 (2048 * d + p)) := ⟨_, rfl⟩
      obtain ⟨z', v, t1, t2, t3, t4⟩ := takeR (F := F) (u := wc + 1) (x0 := 410) (st := 2048 * d) (len := len) (b := b) (by omega) rfl W1.1 hN hS.2.1 p8 (by omega) (by omega) (fun p hp => by rw [lay_a L1 410 100 65536 (by decide) rfl]; exact okI_nI (by omega) (by omega)) (fun p hp => by rw [eb', (z1k 410 (by omega)).1, d1 410 (by omega) (by omega) (by omega)])
      obtain ⟨y', v', u1, u2, u3, u4⟩ := takeC (F := F) (kp := 15 + 5 * (wc + 1)) (t := 113 + 7 * d) (kb := kb) (len := len) (b := b) (by omega) rfl q8 ⟨d, ht, rfl⟩ W1.2.1 hN p4 p6 okb (by rw [p7]) p8 (fun p hp => by
        refine ⟨y1.1 kb p, ?_, ?_, ?_⟩
        · unfold rb
          rw [if_neg p6, if_pos, nI_clamp (by omega)]
          unfold okA
          rw [okb, p7, Bool.true_and]
          exact okI_nI hp (by omega)
        · rw [(h4 kb (by omega) (by omega)).1, p10 p hp, eb']; exact bOf_e _
        · rw [eb']; exact bOf_lt _) (nI cost)
      rw [u1] at tm0
      have Wz : RWo sh n z' ws wc dp := W1.1.tk rfl t3
      have Wy : CWo sh n y' ws wc dp := W1.2.1.tc rfl q8 ⟨d, ht, rfl⟩ u3
      have Lz' := Wz.1
      have Ly' := Wy.1
      have zk : ∀ k, k ≠ 337 → ¬ (355 ≤ k ∧ k ≤ 367) → k ≠ 342 → k < 423 + 9 * (wc + 1) → z'.1 k = (doS z d sd lim).1 k := fun k a b c e => by rw [t3.2.2.1 k (by omega) (by omega) c a]; exact (z1k k a).1
      have zl : ∀ k, k ≠ 337 → ¬ (355 ≤ k ∧ k ≤ 367) → z'.2.1 k = (doS z d sd lim).2.1 k := fun k a b => by rw [t3.2.1 k (by omega)]; exact (z1k k a).2
      have zf : ∀ j, j ≠ 23 → j ≠ 26 → z'.1 337 j = (doS z d sd lim).1 337 j := fun j a b => by rw [t3.2.2.2.1 j a]; exact z1f j b
      have zfl : z'.2.1 337 = (doS z d sd lim).2.1 337 := by rw [t3.2.1 337 (by omega)]; exact z1l
      have z26 : z'.1 337 26 = nI cost := by rw [t3.2.2.2.1 26 (by omega)]; exact z126
      have z27 : z'.1 337 27 = -1 := by rw [zf 27 (by omega) (by omega)]; exact x4
      have z24 : z'.2.1 337 24 = sd := by rw [zfl]; exact x1
      have FPz : FrPz d z z' := FD z' (fun k a e g => ⟨zk k a (by omega) (by omega) (by omega), zl k a (by omega)⟩) (fun j hj => zf j (by omega) (by omega)) (by rw [zfl]) (by rw [zfl])
      have RL : RLg z' nc ac nr rs := (doS_rl b1).k342 (fun k a e g g' => ⟨zk k (by omega) (by omega) g' (by omega), zl k (by omega) (by omega)⟩) (zf 3 (by omega) (by omega)) (zf 9 (by omega) (by omega))
      have yk : ∀ k, ¬ (60 ≤ k ∧ k ≤ 72) → ¬ (15 + 5 * (wc + 1) ≤ k ∧ k ≤ 15 + 5 * (wc + 1) + 4) → k ≠ 113 + 7 * d → y'.1 k = y1.1 k := fun k a e g => u3.2.2.1 k a e g
      have yl : ∀ k, ¬ (60 ≤ k ∧ k ≤ 72) → ¬ (15 + 5 * (wc + 1) ≤ k ∧ k ≤ 15 + 5 * (wc + 1) + 4) → y'.2.1 k = y1.2.1 k := fun k a e => u3.2.1 k a e
      have CL : CLg y' nc (fun j => if j = i then ((ac j).1, (ac j).2.1 - lN lim, (ac j).2.2 + 1) else ac j) nr so := h2.of (fun k a e => ⟨yk k (by omega) (by omega) (by omega), yl k (by omega) (by omega)⟩)
      have FPy : FrPy (113 + 7 * d) y y' := by
        obtain ⟨g1, g2, g3, g4, g5, g6⟩ := Fy1
        refine ⟨fun t ht' => by rw [u3.1 _ _ (by omega) (by omega) (by omega)]; exact g1 t ht', fun k a e => by rw [yk k (by omega) (by omega) e]; exact g2 k a e, fun k a e => by rw [yl k (by omega) (by omega)]; exact g3 k a e, fun j a e g => by rw [u3.2.2.2 j g]; exact g4 j a e g, fun j a => by rw [yl _ (by omega) (by omega)]; exact g5 j a, by rw [yl 3 (by omega) (by omega)]; exact g6⟩
      have Bz : Byt sh n z' y' wc bs := fun j a e => by
        obtain ⟨kb', c1, c2, c3, c4, c5, c6⟩ := a1.2.2.2 j a e
        refine ⟨kb', by rw [u3.1 _ _ (by omega) (by omega) (by omega), h3]; exact c1, c2, by rw [yk _ (by omega) (by omega) (by omega), (h4 _ (by omega) (by omega)).1]; exact c3, by rw [zk _ (by omega) (by omega) (by omega) (by omega), d1 _ (by omega) (by omega) (by omega)]; exact c4, c5, fun p hp => ?_⟩
        rw [zk _ (by omega) (by omega) (by omega) (by omega), d1 _ (by omega) (by omega) (by omega), rb_fr (show y'.1 kb' = y.1 kb' by rw [yk _ (by omega) (by omega) (by omega), (h4 _ (by omega) (by omega)).1])]
        exact c6 p hp
      have z414 : z'.1 414 d = 0 := by rw [zk 414 (by omega) (by omega) (by omega) (by omega)]; exact x6
      have tk0 : fn_X18_takeModule F sh n z1 337 410 (2048 * nI d) (nI len) (nI wc + 1) = some (z', v) := by
        rw [show (2048 * nI d : Int32) = nI (2048 * d) by rw [show (2048 : Int32) = nI 2048 from rfl, pk_mul], show nI wc + 1 = nI (wc + 1) from nI_add wc 1]; exact t1
      have n8 : ¬ nI wc = 8 := fun e => by have := nI_uq (b := 8) e (by omega) (by omega); omega
      have pcr : fn_X18_placeCount F sh n z' 337 = some (z', nI (nc + wc + nr)) := by
        unfold fn_X18_placeCount
        rw [(b_model Lz').1, grd_true, RL.1.1, RL.2.1, Wz.2.1, nI_add, nI_add]
      have pcc : fn_X7_placeCount F sh n y' 3 = some (y', nI (nc + wc + nr)) := by
        unfold fn_X7_placeCount
        rw [(b_state Ly').1, grd_true, CL.1.1, CL.2.1, Wy.2.1, nI_add, nI_add]
      rw [spend_r LD x4 x3 x2 hl (by omega), if_pos qc, cal_s, if_neg (show ¬ ((1 : Int32) = 0) by decide), ← ez1, W1.1.2.1, if_neg n8, L1.2.2 337 64 410 rfl, lnk_s, tk0, cal_s] at pub0
      cases ev : vdM ws wc dp b len with
      | some e =>
        rw [ev] at t2 u2
        obtain ⟨t5, t6, t7, t8⟩ := t2
        obtain ⟨u5, u6, u7, u8⟩ := u2
        have nv : ¬ nI e.1 = 0 := fun q => by have := nI_uq (b := 0) q (by omega) (by omega); omega
        rw [t5, if_neg nv, Lz'.2.2 337 68 414 rfl, lnk_s, md_at Lz' ht 414 101 rfl (by decide), grd_true, nI_clamp (by omega), lt_t, rend (z := si z' 414 d (z'.1 337 23)) (Lz'.of rfl) (by rw [si_ok (by omega)]; exact z27), cal_s, lIi (by omega)] at pub0
        unfold fn_X11_takeModule_B144 at tm0
        rw [u5, if_neg nv, show (4 : Int32) = nI 4 from rfl, lIi (by omega), cend okT, cal_s] at tm0
        have Lc : Lay sh n (si z' 414 d (z'.1 337 23)) := Lz'.of rfl
        refine go (si z' 414 d (z'.1 337 23)) y' ws wc dp bs 4 cost (lN e.1) pub0 tm0 (Wor.of (z := z') (y := y') ⟨Wz, Wy, hS, Bz⟩ Lc Ly' (by rw [si_ok (by omega)]) (fun k q => si_ok (by omega)) rfl (fun _ _ _ => rfl) (fun _ _ => ⟨rfl, rfl⟩)) b3 ld b5 (RL.of (fun k a e => ⟨si_ok (by omega), rfl⟩) (by rw [si_ok (by omega)]) (by rw [si_ok (by omega)])) z24 (by rw [si_ok (by omega)]; exact z26) qc ?_ CL FPy (by omega) ?_
        · obtain ⟨f1, f2, f3, f4, f5, f6, f7⟩ := FPz
          exact ⟨fun k a b c e => by rw [si_ok c]; exact f1 k a b c e, f2, fun j hj => ⟨by rw [si_oj hj]; exact (f3 j hj).1, by rw [si_ok (by omega)]; exact (f3 j hj).2⟩, by rw [si_ok (by omega)]; exact f4, fun j hj => by rw [si_ok (by omega)]; exact f5 j hj, f6, f7⟩
        · rw [si_ss, if_pos rfl, t8, u8]
      | none =>
        rw [ev] at t2 u2
        have t2' : v = 0 := t2
        have u2' : v' = 0 := u2
        subst t2' u2'
        rw [if_pos rfl, pcr, cal_s] at pub0
        unfold fn_X11_takeModule_B144 at tm0
        rw [if_pos rfl, (b_ledg Ly').2.2.2.1, lnk_s, (b_state Ly').1, grd_true, pcc, cal_s] at tm0
        by_cases q256 : nc + wc + nr = 256
        · rw [q256, if_pos (show nI 256 = 256 from rfl), rend Lz' z27, cal_s] at pub0
          rw [q256, if_neg (show ¬ nI 256 < 256 by decide), show (2 : Int32) = nI 2 from rfl, cend okT, cal_s] at tm0
          exact go z' y' ws wc dp bs 2 cost 4 pub0 tm0 ⟨Wz, Wy, hS, Bz⟩ b3 ld b5 RL z24 z26 qc FPz CL FPy (by omega) (by rw [if_neg (by omega)]; exact z414)
        · have q1 : nI (nc + wc + nr) < 256 := (nI_ltW (b := 256) (by omega) (by omega)).mpr (by omega)
          have q2 : ¬ nI (nc + wc + nr) = 256 := fun e => q256 (nI_uq (b := 256) e (by omega) (by omega))
          have Lz5 : Lay sh n (si z' 337 5 (nI (wc + 1))) := Lz'.of rfl
          rw [if_neg q2, Wz.2.1, show nI wc + 1 = nI (wc + 1) from nI_add wc 1, lt_t, rend Lz5 (by rw [si_oj (by omega)]; exact z27), cal_s] at pub0
          rw [if_pos q1, (b_ledg Ly').2.2.2.1, lnk_s, (b_state Ly').1, grd_true, Wy.2.1, show nI wc + 1 = nI (wc + 1) from nI_add wc 1, lt_t, show (0 : Int32) = nI 0 from rfl, cend okT, cal_s] at tm0
          obtain ⟨q, r1, Wz'⟩ := Wz.new q8 (t4 rfl)
          obtain ⟨q', r2, Wy'⟩ := Wy.new q8 p4 (u4 rfl)
          have eq' : q' = q := by rw [r1] at r2; exact (Except.ok.inj r2).symm
          subst eq'
          have hb : ∀ p, p < len → b p < 256 := fun p _ => by rw [eb']; exact bOf_lt _
          have hS' := hS.new q8 hb ev r1
          have hx := hS.ex (D := mAll ws wc dp (mdOf b q'.1)) hS'.1
          obtain ⟨qr, r3, _, _, um, _⟩ := t4 rfl
          obtain ⟨qc', r4, _, _, cp, _⟩ := u4 rfl
          refine go (si z' 337 5 (nI (wc + 1))) (si y' 3 5 (nI (wc + 1))) _ (wc + 1) _ (bsN bs (wc + 1) len b) 0 cost 0 pub0 tm0 ⟨Wz', Wy', hS', fun j a e => ?_⟩ (hS.rsP hx b3) (hS.ldT hx b3 ld) (by omega) (RL.of (fun k a e => ⟨si_ok (by omega), rfl⟩) (by rw [si_oj (by omega)]) (by rw [si_oj (by omega)])) z24 (by rw [si_oj (by omega)]; exact z26) qc ?_ ?_ ?_ (by omega) (by rw [if_neg (by omega), si_ok (by omega)]; exact z414)
          · by_cases cj : j = wc + 1
            · subst cj
              have e1 : bsN bs (wc + 1) len b (wc + 1) = (len, b) := if_pos rfl
              rw [e1]
              refine ⟨kb, cp.2.1, p4, by rw [si_ok (by omega)]; exact cp.2.2.1, by rw [si_ok (by omega)]; exact um.1.2.2.1, p8, fun p hp => ⟨hb p hp, by rw [si_ok (by omega)]; exact (um.1.2.2.2.2 p hp).1, ?_⟩⟩
              obtain ⟨v, v1, v2, _⟩ := cp.2.2.2.2 p hp
              exact ⟨v, by rw [rb_fr (show (si y' 3 5 (nI (wc + 1))).1 kb = y'.1 kb from si_ok (by omega))]; exact v1, v2⟩
            · have e1 : bsN bs (wc + 1) len b j = bs j := if_neg cj
              rw [e1]
              obtain ⟨kb', c1, c2, c3, c4, c5, c6⟩ := Bz j a (by omega)
              refine ⟨kb', c1, c2, by rw [si_ok (by omega)]; exact c3, by rw [si_ok (by omega)]; exact c4, c5, fun p hp => ?_⟩
              rw [si_ok (by omega), rb_fr (show (si y' 3 5 (nI (wc + 1))).1 kb' = y'.1 kb' from si_ok (by omega))]
              exact c6 p hp
          · obtain ⟨f1, f2, f3, f4, f5, f6, f7⟩ := FPz
            exact ⟨fun k a b c e => by rw [si_ok (by omega)]; exact f1 k a b c e, f2, fun j hj => by rw [si_ok (by omega), si_ok (by omega)]; exact f3 j hj, by rw [si_ok (by omega)]; exact f4, fun j hj => by rw [si_oj (by omega)]; exact f5 j hj, f6, f7⟩
          · exact CL.c35
          · obtain ⟨g1, g2, g3, g4, g5, g6⟩ := FPy
            exact ⟨g1, fun k a e => by rw [si_ok (by omega)]; exact g2 k a e, g3, fun j a e g => by rw [si_ok (by omega)]; exact g4 j a e g, g5, g6⟩
    · have w88 : wc = 8 := by omega
      rw [if_pos qc, if_neg q8] at tm0
      rw [spend_r LD x4 x3 x2 hl (by omega), if_pos qc, cal_s, if_neg (show ¬ ((1 : Int32) = 0) by decide), si_oj (by omega), Wd.1.2.1, w88, if_pos (show nI 8 = 8 from rfl), rend (z := si (doS z d sd lim) 337 26 (nI cost)) (LD.of rfl) (by rw [si_oj (by omega)]; exact x4), cal_s] at pub0
      exact go _ y1 ws wc dp bs 2 cost 4 pub0 tm0 (W26 _) b3 ld b5 (R26 _) x1 si_ss qc (FZ _) h2 Fy1 (by omega) (by rw [if_neg (by omega), si_ok (by omega)]; exact x6)
  · rw [if_neg qc] at tm0
    rw [spend_r LD x4 x3 x2 hl (by omega), if_neg qc, cal_s, if_pos rfl] at pub0
    exact go _ y1 ws wc dp bs 2 lim 5 pub0 tm0 (W26 _) b3 ld b5 (R26 _) x1 si_ss (Nat.le_refl _) (FZ _) h2 Fy1 (by omega) (by rw [if_neg (by omega), si_ok (by omega)]; exact x6)
end
