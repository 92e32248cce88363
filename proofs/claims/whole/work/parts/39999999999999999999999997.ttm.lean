/-! WHAT IS REFUSED, as a whole -/
theorem U0_fl : ∀ f, f < 6 → (nI (fnOf U0 f).1 &&& 2 : Int32) = 0 := by decide
def rfT (nc : Nat) (ac : Nat → Int64 × Int64 × Int64) (sd sq : Int64) (lim rest : Nat) : Nat := match fdA nc ac sd with
  | some i => if (ac i).2.2 = sq then (if lN lim ≤ (ac i).2.1 then rest else 3) else 2
  | none => 1
section
variable {F n : Nat} {sh : Nat → Nat × Nat} {z y : St} {ws : Nat → Md} {wc : Nat} {dp : Nat → Nat → Nat} {kp kb t f c m ku len : Nat} {kd : Nat → Nat} {b : Nat → Nat} {M : MP} {nc nr : Nat} {ac : Nat → Int64 × Int64 × Int64} {rs : Nat → Int64 × Nat × Hp × Nat} {so : Nat → Option Rsc} {sd sq : Int64} {lim : Nat}
theorem tbs_of (hb : ∀ q, q < len → b q < 256) (hp : PicOk b len M) (hj : jM b M = none) (hf : f < M.2.2.2.2.length) : (∀ x, x ∈ tksOf (mdOf b M) f → TB x) ∧ (∀ x, x ∈ gvsOf (mdOf b M) f → TB x) ∧ (tksOf (mdOf b M) f).length ≤ 8 ∧ (gvsOf (mdOf b M) f).length ≤ 8 ∧ f < faOf (mdOf b M) ∧ (fnOf (mdOf b M) f).1 < 8 := by
  have mo := mdO_of hb hp hj
  have fa : f < faOf (mdOf b M) := by
    show f < M.2.2.2.2.length + M.2.2.1.length
    omega
  obtain ⟨m1, m2, m3, m4, m5⟩ := mo.2.2.2.2 f fa
  exact ⟨fun x hx => (m4 x hx).1.1, fun x hx => (m5 x hx).1.1, m2, m3, fa, m1⟩
theorem refU_c (hF : 100 ≤ F) (cp : CPr sh n y kp kb b len M) (hj : jM b M = none) (ht : t < 32) (hf64 : f < 64) (h5 : y.1 (113 + 7 * t) 5 = nI f) (h7 : y.1 (113 + 7 * t) 7 = nI c) (hc : c ≤ 8) (hk : ∀ i, i < c → 1 ≤ kd i ∧ kd i ≤ 5) (ha : ∀ i, i < c → y.1 (113 + 7 * t + 1) i = nI (kd i)) : (if ((y.1 (113 + 7 * t) 5) : Int32) < (y.1 kp 11) then cal (fn_X5_flags F sh n y kp (y.1 (113 + 7 * t) 5)) (fun z_28 r_29 => if ((r_29 &&& 2) : Int32) = 0 then some (z_28, 6) else cal (fn_X8_fits F sh n z_28 (113 + 7 * t) kp) (fun z_32 r_33 => if (r_33 : Int32) = 0 then some (z_32, 7) else cal (fn_X5_givesPlain F sh n z_32 kp (z_32.1 (113 + 7 * t) 5)) (fun z_36 r_37 => if (r_37 : Int32) = 0 then some (z_36, 8) else some (z_36, 0)))) else some (y, 5)) = some (y, nI (rfU (mdOf b M) f c kd)) := by
  have hL := cp.1.1
  have cn : CnL F sh n y kp (mdOf b M) := cp.1.cnL cp.hb
  have k11 := cp.1.2.2.1.1.2.2.2.1
  have fl : M.2.2.2.2.length ≤ 64 := cp.1.2.2.2.2.2.2.2.1
  rw [h5, k11]
  unfold rfU
  by_cases q : f < M.2.2.2.2.length
  · obtain ⟨T1, T2, T3, T4, T5, T6⟩ := tbs_of cp.hb cp.1.2.2.2 hj q
    rw [if_pos ((nI_ltW (by omega) (by omega)).mpr q), if_pos (show f < fsOf (mdOf b M) from q), (cn.2.1 f T5).1.2.2, cal_s]
    by_cases q2 : (nI (fnOf (mdOf b M) f).1 &&& 2 : Int32) = 0
    · rw [if_pos q2, if_pos q2]; rfl
    · rw [if_neg q2, if_neg q2, fits_c (by omega) hL ht cn T5 T1 T3 h5 h7 hc hk ha, cal_s, h5]
      by_cases q3 : (decide ((tksOf (mdOf b M) f).length = c) && tkB (tksOf (mdOf b M) f) kd c 0) = true
      · rw [q3, if_neg (show ¬ bI true = 0 by decide), if_pos rfl]
        unfold fn_X5_givesPlain
        rw [show (0 : Int32) = nI 0 from rfl, plain_L cn T5 T2 T4 (gvsOf (mdOf b M) f).length 0 F (by omega) (by omega), cal_s]
        by_cases q4 : gvB (gvsOf (mdOf b M) f) (gvsOf (mdOf b M) f).length 0 = true
        · rw [q4, if_neg (show ¬ bI true = nI 0 by decide), if_pos rfl]
        · rw [if_neg q4, Bool.eq_false_iff.mpr q4, if_pos (show bI false = nI 0 by decide)]; rfl
      · have q3' := Bool.not_eq_true _ ▸ q3
        rw [q3', if_pos (show bI false = 0 by decide), if_neg (by decide)]; rfl
  · rw [if_neg (fun e => q ((nI_ltW (by omega) (by omega)).mp e)), if_neg (show ¬ f < fsOf (mdOf b M) from q)]; rfl
theorem refU_r (hF : 300 ≤ F) (um : UM sh n z ku b len M) (hj : jM b M = none) (ht : t < 32) (hf64 : f < 64) (hi : ku = 423 + 9 * m) (hm : 1 ≤ m ∧ m ≤ 8) (h5 : z.1 405 t = nI f) (h7 : z.1 406 t = nI c) (hc : c ≤ 8) (hk : ∀ i, i < c → 1 ≤ kd i ∧ kd i ≤ 5) (ha : ∀ i, i < c → z.1 407 (8 * t + i) = nI (kd i)) : fn_X18_refusal F sh n z 337 (nI t) (nI m) = some (z, nI (rfU (mdOf b M) f c kd)) := by
  have hL := um.1.1
  have fl : M.2.2.2.2.length ≤ 64 := um.2.2.2.2.2.2.1
  have hb : ∀ q, q < len → b q < 256 := fun q hq => (um.1.2.2.2.2 q hq).2
  have lk := (b_units hL (i := m) (by omega)).1
  have k9 := um.2.1.2.2.2.2.2.2.2.2.1
  unfold fn_X18_refusal
  rw [(b_model hL).1, grd_true, hL.2.2 337 59 405 rfl, lnk_s, md_at hL ht 405 101 rfl (by decide), grd_true, nI_clamp (by omega), h5, lt_t, if_neg (fun e => by have := nI_uq (a := m) (b := 0) e (by omega) (by omega); omega), hL.2.2 337 4 341 rfl, lnk_s, lay_a hL 341 106 10 (by decide) rfl, okI_nI (by omega) (by omega), grd_true, nI_clamp (by omega), lk, lnk_s, ← hi, um.1.o, grd_true, k9]
  unfold rfU
  by_cases q : f < M.2.2.2.2.length
  · obtain ⟨T1, T2, T3, T4, T5, T6⟩ := tbs_of hb um.2.2 hj q
    rw [if_pos ((nI_ltW (by omega) (by omega)).mpr q), if_pos (show f < fsOf (mdOf b M) from q), um.flags (by omega), cal_s]
    by_cases q2 : (nI (fnOf (mdOf b M) f).1 &&& 2 : Int32) = 0
    · rw [if_pos q2, if_pos q2]; rfl
    · rw [if_neg q2, if_neg q2, show (0 : Int32) = nI 0 from rfl, um.many hF (f := f) (l := 0) (by omega) (by omega) (fun _ => by omega), cal_s, hL.2.2 337 60 406 rfl, lnk_s, md_at hL ht 406 101 rfl (by decide), grd_true, h7]
      show (if nI (tksOf (mdOf b M) f).length = nI c then _ else _) = _
      unfold fn_X18_refusal_B90
      by_cases e : (tksOf (mdOf b M) f).length = c
      · rw [if_pos (by rw [e]), show (0 : Int32) = nI 0 from rfl, ref_L95 hF um ht q T1 h7 hc hk ha e c 0 F (by omega) (by omega), decide_eq_true e, Bool.true_and]
        unfold fn_X18_refusal_B150
        by_cases q3 : tkB (tksOf (mdOf b M) f) kd c 0 = true
        · rw [q3, if_neg (show ¬ bI true = 0 by decide), if_pos rfl, show (0 : Int32) = nI 0 from rfl, ref_L161 hF um q T2 T4 (gvsOf (mdOf b M) f).length 0 F (by omega) (by omega)]
          by_cases q4 : gvB (gvsOf (mdOf b M) f) (gvsOf (mdOf b M) f).length 0 = true
          · rw [if_pos q4, if_pos q4]; rfl
          · rw [if_neg q4, if_neg q4]; rfl
        · have q3' := Bool.not_eq_true _ ▸ q3
          rw [q3', if_pos (show bI false = 0 by decide), if_neg (by decide)]; rfl
      · rw [if_neg (fun q => e (nI_uq q (by omega) (by omega))), decide_eq_false e, Bool.false_and]
        obtain ⟨g, eg⟩ : ∃ q, F = q + 1 := ⟨F - 1, by omega⟩
        rw [eg]
        unfold fn_X18_refusal_L95
        rw [hL.2.2 337 60 406 rfl, lnk_s, md_at hL ht 406 101 rfl (by decide), grd_true]
        have e7 : ∀ F, fn_X18_refusal_B150 F sh n ku (nI f) z 0 = some (z, 7) := fun F => by
          unfold fn_X18_refusal_B150
          rw [if_pos rfl]
        by_cases w : z.1 406 (nI t).toNatClampNeg ≤ 0
        · rw [if_pos w, show (nI 0 : Int32) = 0 from rfl, e7]; rfl
        · rw [if_neg w, if_pos (show nI 0 = 0 from rfl), show (nI 0 : Int32) = 0 from rfl, e7]; rfl
  · rw [if_neg (fun e => q ((nI_ltW (by omega) (by omega)).mp e)), if_neg (show ¬ f < fsOf (mdOf b M) from q)]; rfl
end
