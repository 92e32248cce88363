/-! THE CLASS'S MACHINE: a call's beginning, as a whole -/
def FrY (z z' : St) : Prop := ((∀ k j, k ≠ 98 → ¬ (k = 87 ∧ j = 13) → z'.2.2 k j = z.2.2 k j) ∧ z'.1 87 18 = z.1 87 18) ∧ ∀ k, ¬ (87 ≤ k ∧ k ≤ 112) → z'.1 k = z.1 k ∧ z'.2.1 k = z.2.1 k
theorem FrY.trans {z z' z'' : St} (h : FrY z z') (g : FrY z' z'') : FrY z z'' := ⟨⟨fun k j a b => (g.1.1 k j a b).trans (h.1.1 k j a b), g.1.2.trans h.1.2⟩, fun k a => ⟨(g.2 k a).1.trans (h.2 k a).1, (g.2 k a).2.trans (h.2 k a).2⟩⟩
theorem FrX.y {z z' : St} (h : FrX z z') : FrY z z' := ⟨⟨fun k j a _ => by rw [h.1 k a], h.2.2.1 18 (by omega)⟩, h.2.1⟩
def cz1 (z : St) (kt : Nat) : St := si (si (sl (si (si (si (sq z 87 13 (some kt)) 87 14 0) 87 15 1) 87 16 0) 87 17 0) 88 4 1) 104 7 0
section
variable {F n : Nat} {sh : Nat → Nat × Nat} {z z' : St} {pk : Nat → Nat} {lim kt : Nat} {nc nrc : Nat} {acC : Nat → Int64 × Int64 × Int64} {so : Nat → Option Rsc} {u f c md : Nat} {kd : Nat → Nat} {hi lo : Nat → Int64} {sd : Int64}
theorem cz1_fr : FrY z (cz1 z kt) := ⟨⟨fun k j a b => by
  show (if k = 87 then (if j = 13 then some kt else z.2.2 87 j) else z.2.2 k j) = _
  by_cases q : k = 87
  · rw [if_pos q, if_neg (fun w => b ⟨q, w⟩), q]
  · rw [if_neg q], by simp [cz1, sq, si_1, si_2, sl_1, sl_2]⟩, fun k a => by
  have : k ≠ 87 ∧ k ≠ 88 ∧ k ≠ 104 := by omega
  constructor <;> funext j <;> simp [cz1, sq, si_1, si_2, sl_1, sl_2, this]⟩
theorem call_c (hF : 300 ≤ F) (hL : Lay sh n z) (cg : CLg z nc acC nrc so) (ok : okO sh n kt 8 = true) (hkt : 113 ≤ kt) (t3 : z.1 kt 3 = nI lim) (hl : lim ≤ 20000) (t1 : z.2.1 kt 1 = sd) (t4 : z.1 kt 4 = nI md) (t5 : z.1 kt 5 = nI f) (hmd : md < 65536) (tx : TxA sh n z kt c kd hi lo) (hp : ∀ z', FrY z z' → fn_X7_findProgram F sh n z' 3 (nI md) = some (z', some (pk u))) (hok : okO sh n (pk u) 5 = true) (hc : c ≤ 8) (hk : ∀ i, i < c → 1 ≤ kd i ∧ kd i ≤ 5) {ws : Nat → Int64 → Nat → Bool} (hw : ws 1 sd 0 = acT nc acC sd) : ∃ z' cn, fn_X4_run F sh n z 87 kt = fn_X4_run_L134 F sh n 87 F z' 0 ∧ CM sh n z' pk kt (agH 1 c kd hi lo) (1 + c) (z.1 88 6) (frA u f c (fun k => k) kd) (fun _ _ => 0) (fun _ k => k + 1) 1 0 lim ∧ CJ z' 2 (ak0 sd (acB nc acC sd) (acT nc acC sd) md) cn ws ∧ FrY z z' := by
  have f1 := cz1_fr (z := z) (kt := kt)
  have L1 : Lay sh n (cz1 z kt) := (hL.sq (k := 87) (j := 13) (v := some kt) rfl).of rfl
  have J1 : CJ (cz1 z kt) 0 (fun _ => (2, lN md, 0, 0, false, 0)) (fun _ => 0) ws := ⟨⟨by simp [cz1, si_1]; rfl, fun i j hi => by omega⟩, by omega, fun e he => by omega⟩
  obtain ⟨z3, q3, J3, j3, g3⟩ := cask_1 (F := F) hF L1 J1 (cg.of (fun k a b => f1.2 k (by omega))) (a := sd) rfl (by omega) hw
  have L3 : Lay sh n z3 := L1.of j3.1
  have e2 : upA (fun _ => (2, lN md, 0, 0, false, 0)) 0 (1, sd, 0, acB nc acC sd, acT nc acC sd, 0) = ak0 sd (acB nc acC sd) (acT nc acC sd) md := by
    funext j
    by_cases q : j = 0
    · subst q; rw [upA_s]; rfl
    · rw [upA_n q]; unfold ak0; rw [if_neg q]
  rw [e2] at J3
  have fk : fdK (0 + 1) (ak0 sd (acB nc acC sd) (acT nc acC sd) md) 2 (lN md) 0 (0 + 1) 0 = none := by
    unfold fdK
    rw [fd_1, if_neg (by simp [ak0])]
    rfl
  obtain ⟨y1, _, y3, _⟩ := ck2 hmd
  have y3' : N (lN md) = md := y3
  obtain ⟨z4, q4, J4, j4, g4⟩ := cask_2 (F := F) hF L3 J3 y1 fk (by omega)
  rw [y3'] at q4
  have e3 : upA (ak0 sd (acB nc acC sd) (acT nc acC sd) md) (0 + 1) (2, lN md, 0, 0, false, 0) = ak0 sd (acB nc acC sd) (acT nc acC sd) md := by
    funext j
    by_cases q : j = 0 + 1
    · subst q; rw [upA_s]; rfl
    · rw [upA_n q]
  rw [e3] at J4
  have L4 : Lay sh n z4 := L3.of j4.1
  have f4 : FrY z z4 := (f1.trans j3.x.y).trans j4.x.y
  have L5 : Lay sh n (si z4 87 12 (-1)) := L4.of rfl
  have f5 : FrY z (si z4 87 12 (-1)) := f4.trans ⟨⟨fun _ _ _ _ => rfl, by rw [si_oj (by omega)]⟩, fun k a => ⟨by funext j; simp [si_1, show k ≠ 87 by omega], rfl⟩⟩
  have pf := pushFrame_t (F := F) hF L5 (d := 0) (p := pk u) (by omega) (by simp [si_1]; rfl) hok (nI f)
  obtain ⟨r1, r2, r3, r4, r5, r6, r7, r8, r9, r10, r11, r12, r13, r14⟩ := pf_rows (si z4 87 12 (-1)) 0 (pk u) (nI f)
  have L6 : Lay sh n (pfS (si z4 87 12 (-1)) 0 (pk u) (nI f)) := L5.of98 r14
  have f6 : FrY z (pfS (si z4 87 12 (-1)) 0 (pk u) (nI f)) := f5.trans ⟨⟨fun k j a _ => by rw [r14 k a], r2 18 (by omega)⟩, fun k a => ⟨r10 k (by omega) (by omega), by rw [r11]⟩⟩
  have l13 : ∀ j, (cz1 z kt).2.2 87 13 = some kt ∧ z4.2.2 87 j = (cz1 z kt).2.2 87 j := fun j => ⟨rfl, by rw [j4.1, j3.1]⟩
  have k13 : z4.2.2 87 13 = some kt := (l13 13).2.trans (l13 13).1
  have n87 : ∀ j, j ≠ 12 → (pfS (si z4 87 12 (-1)) 0 (pk u) (nI f)).1 87 j = (cz1 z kt).1 87 j := fun j hj => by
    rw [r2 j hj, show (si z4 87 12 (-1)).1 87 j = z4.1 87 j by simp [si_1, hj], (g4 87 (by omega)).1, (g3 87 (by omega)).1]
  have n88 : (pfS (si z4 87 12 (-1)) 0 (pk u) (nI f)).1 88 = (cz1 z kt).1 88 := by
    rw [r10 88 (by decide) (by omega), show (si z4 87 12 (-1)).1 88 = z4.1 88 by funext j; simp [si_1], (g4 88 (by omega)).1, (g3 88 (by omega)).1]
  have dead : ∀ i, agH 1 0 kd hi lo i = (0, 0, 0, []) := fun i => by unfold agH; rw [if_neg (by omega)]
  have M6 : CM sh n (pfS (si z4 87 12 (-1)) 0 (pk u) (nI f)) pk kt (agH 1 0 kd hi lo) (1 + 0) (z.1 88 6) (frA u f 0 (fun k => k) kd) (fun _ _ => 0) (fun _ k => k + 1) 1 0 lim := by
    refine ⟨L6, ⟨by rw [n88]; simp [cz1, si_1]; rfl, by omega, by omega, by rw [n88]; simp [cz1, si_1, sl_1, sq], fun i q => by rw [dead] at q; exact absurd rfl q⟩, ⟨r1, by omega, by omega, fun d hd => ?_⟩, ⟨by rw [n87 15 (by decide)]; simp [cz1, si_1, sl_1], by rw [n87 16 (by decide)]; simp [cz1, si_1, sl_1], by rw [r11, show (si z4 87 12 (-1)).2.1 87 = z4.2.1 87 from rfl, (g4 87 (by omega)).2, (g3 87 (by omega)).2]; simp [cz1, sl_2, si_2]⟩, ⟨by rw [r14 87 (by decide)]; exact k13, ok, hkt, by rw [(f6.2 kt (by omega)).1]; exact t3⟩, by rw [n87 14 (by decide)]; simp [cz1, si_1, sl_1]; rfl, by omega, hl⟩
    have d0 : d = 0 := by omega
    subst d0
    refine ⟨by show 0 ≤ 64; omega, r12, r3, r4, r5, fun k hk => absurd hk (by show ¬ k < 0; omega), fun k s hs => ?_, fun k h40 _ => .inl (r8 k h40)⟩
    have hs' : (if k < 0 then some ((k, 0, kd k, 0, false) : Sl) else none) = some s := hs
    rw [if_neg (by omega)] at hs'
    exact absurd hs' (by simp)
  have tx6 : TxA sh n (pfS (si z4 87 12 (-1)) 0 (pk u) (nI f)) kt c kd hi lo := by
    obtain ⟨ka, kb, kc, h1, h2, h3, h4, ⟨h5, h6, h7⟩, h8⟩ := tx
    refine ⟨ka, kb, kc, by rw [(f6.2 kt (by omega)).1]; exact h1, by rw [f6.1.1 kt _ (by omega) (by omega)]; exact h2, by rw [f6.1.1 kt _ (by omega) (by omega)]; exact h3, by rw [f6.1.1 kt _ (by omega) (by omega)]; exact h4, ⟨h5, h6, h7⟩, fun i hi => ?_⟩
    obtain ⟨w1, w2, w3, w4⟩ := h8 i hi
    exact ⟨w1, by rw [(f6.2 ka (by omega)).1]; exact w2, by rw [(f6.2 kb (by omega)).2]; exact w3, by rw [(f6.2 kc (by omega)).2]; exact w4⟩
  obtain ⟨z7, q7, M7, f7⟩ := cargs (F := F) hc hk c 0 F _ (by omega) (by omega) M6 tx6
  have J6 : CJ (pfS (si z4 87 12 (-1)) 0 (pk u) (nI f)) 2 (ak0 sd (acB nc acC sd) (acT nc acC sd) md) _ ws := J4.fd (z' := pfS (si z4 87 12 (-1)) 0 (pk u) (nI f)) ⟨fun k a => r14 k a, fun k a => ⟨(r10 k (by omega) (by omega)).trans (by funext j; simp [si_1, show k ≠ 87 by omega]), by rw [r11]; rfl⟩, fun j hj => by rw [r2 j (by omega)]; simp [si_1, show j ≠ 12 by omega], fun j _ => by rw [r11]; rfl⟩
  refine ⟨z7, _, ?_, M7, J6.fc f7, f6.trans f7.x.y⟩
  have La : Lay sh n (sl (si (si (si (sq z 87 13 (some kt)) 87 14 0) 87 15 1) 87 16 0) 87 17 0) := (hL.sq (k := 87) (j := 13) (v := some kt) rfl).of rfl
  have Lb : Lay sh n (si (sl (si (si (si (sq z 87 13 (some kt)) 87 14 0) 87 15 1) 87 16 0) 87 17 0) 88 4 1) := La.of rfl
  have clr : fn_X1_clear F sh n (sl (si (si (si (sq z 87 13 (some kt)) 87 14 0) 87 15 1) 87 16 0) 87 17 0) 88 = some (si (sl (si (si (si (sq z 87 13 (some kt)) 87 14 0) 87 15 1) 87 16 0) 87 17 0) 88 4 1, ()) := by
    unfold fn_X1_clear
    rw [(b_heap La).1, grd_true, lt_t]
  have c1 : (cz1 z kt).2.1 kt 1 = sd := by rw [(f1.2 kt (by omega)).2]; exact t1
  have c4 : z3.1 kt 4 = nI md := by rw [(g3 kt (by omega)).1, (f1.2 kt (by omega)).1]; exact t4
  have opn : fn_X2_open F sh n (si (sl (si (si (si (sq z 87 13 (some kt)) 87 14 0) 87 15 1) 87 16 0) 87 17 0) 88 4 1) 104 kt = some (z4, ()) := by
    unfold fn_X2_open
    rw [(b_jour Lb).1, grd_true, lt_t, ok, grd_true]
    show cal (fn_X2_ask F sh n (cz1 z kt) 104 1 ((cz1 z kt).2.1 kt 1) 0 0) _ = _
    rw [c1, q3, cal_s, c4, q4, cal_s]
  have k13b : (si (sl (si (si (si (sq z 87 13 (some kt)) 87 14 0) 87 15 1) 87 16 0) 87 17 0) 88 4 1).2.2 87 13 = some kt := rfl
  have k13c : (si z4 87 12 (-1)).2.2 87 13 = some kt := k13
  have d4 : (si z4 87 12 (-1)).1 kt 4 = nI md := by rw [(f5.2 kt (by omega)).1]; exact t4
  have d5 : (si z4 87 12 (-1)).1 kt 5 = nI f := by rw [(f5.2 kt (by omega)).1]; exact t5
  have q7' : fn_X4_run_L75 F sh n 87 F (pfS (si z4 87 12 (-1)) 0 (pk u) (nI f)) 0 = fn_X4_run_L134 F sh n 87 F z7 0 := q7
  unfold fn_X4_run
  rw [(b_mach hL).1, grd_true, lt_t, lt_t, lt_t, lt_t, lt_t, La.2.2 87 1 88 rfl, lnk_s, (b_heap La).1, grd_true, clr, cal_s, Lb.2.2 87 2 104 rfl, lnk_s, k13b, lnk_s, (b_jour Lb).1, grd_true, opn, cal_s, lt_t, L5.2.2 87 0 3 rfl, lnk_s, k13c, lnk_s, ok, grd_true, (b_state L5).1, grd_true, d4, hp _ f5, cal_s, nul_s, k13c, lnk_s, ok, grd_true, d5, pf, cal_s, q7']
end
