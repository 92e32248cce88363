/-! THE CLASS'S JOURNAL: a resource is asked for first -/
section
variable {F n : Nat} {sh : Nat → Nat × Nat} {z z' : St} {nc nr na : Nat} {ac : Nat → Int64 × Int64 × Int64} {so : Nat → Option Rsc} {ak : Nat → Ask} {cn : Nat → Nat} {ws : Nat → Int64 → Nat → Bool}
theorem cask_3n (hF : 300 ≤ F) (hL : Lay sh n z) (h : CJ z na ak cn ws) (hg : CLg z nc ac nr so) {a : Int64} {k : Nat} (hk2 : k < 2 ^ 24) (hj : fdK na ak 3 a k na 0 = none) (hn : na < 24) (hf : fdS so a k = none) (hw : ws 3 a k = false) : ∃ z', fn_X2_ask F sh n z 104 3 a (nI (k / 256)) (nI (k % 256)) = some (z', nI na) ∧ CJ z' (na + 1) (upA ak na (3, a, k, 0, false, 0)) (fun e => if e = na then 0 else cn e) ws ∧ FrJ z z' ∧ ∀ k, k < 104 ∨ 112 < k → z'.1 k = z.1 k ∧ z'.2.1 k = z.2.1 k := by
  have hk : KyOk 3 a k := Or.inr (Or.inr ⟨rfl, hk2⟩)
  have e0 := cask_0 (F := F) hF hL h hk hj hn
  obtain ⟨j1, j2, j3, j4, j5, j6⟩ := jz_o (z := z) (na := na) (s := 3) (k := k) (a := a)
  have Lz : Lay sh n (jz z na 3 a k) := hL.of rfl
  have fz := jz_fr (z := z) (na := na) (s := 3) (k := k) (a := a)
  have Gz : CLg (jz z na 3 a k) nc ac nr so := hg.of (fun k k1 k2 => fz.2 k (by omega) (by omega))
  have fa := cfindR_t (F := F) hF Lz Gz (x := a) hk2
  have o12 : okA sh n 112 101 (nI na) = true := by rw [lay_a hL 112 101 24 (by decide) rfl]; exact okI_nI (by omega) (by omega)
  have cp : (nI na).toNatClampNeg = na := nI_clamp (by omega)
  have eM : ckM 3 a k = k / 256 := rfl
  have eS : ckS 3 k = k % 256 := rfl
  have eA : ckA 3 a = a := rfl
  have L2 : Lay sh n (si (jz z na 3 a k) 112 na 0) := Lz.of rfl
  have B : fn_X2_ask_B236 F sh n 112 (nI na) 104 (oI none) (jz z na 3 a k) 0 = some (jE (si (jz z na 3 a k) 112 na 0) na false, nI na) := by
    unfold fn_X2_ask_B236
    rw [o12, grd_true, cp, lt_t, jE_t L2 hn (b := false) (by decide)]
  rw [if_neg (by decide), if_pos (by decide), eM, eS, eA, fa, cal_s, hf, Lz.2.2 104 10 112 rfl, lnk_s, if_neg (by decide), B] at e0
  refine ⟨_, e0, jE_new (z1 := si (jz z na 3 a k) 112 na 0) (b := false) (th := false) h hn hj hk (fun i j i1 i2 hj => ⟨by rw [si_oj hj]; exact (j2 i j i1 i2 hj).1, (j2 i j i1 i2 hj).2⟩) (by rw [si_ok (by omega)]; exact j1) (by rw [si_ok (by omega)]; exact j3) j4 (by rw [si_ok (by omega)]; exact j5) (by rw [si_ok (by omega)]; exact j6) rfl (.inr hw) (fun q => absurd q (by decide)) (fun _ q => absurd q (by decide)), (fz.trans (FrJ.si (by omega))).trans jE_fr, fun i hi => ?_⟩
  unfold jE jz
  constructor
  · rw [si_ok (by omega), si_ok (by omega), si_ok (by omega), si_ok (by omega), sl_1, si_ok (by omega), si_ok (by omega), sl_1, si_ok (by omega), si_ok (by omega)]
  · rw [si_2, si_2, si_2, si_2, sl_ok (by omega), si_2, si_2, sl_ok (by omega), si_2, si_2]
theorem cask_3s (hF : 300 ≤ F) (hL : Lay sh n z) (h : CJ z na ak cn ws) (hg : CLg z nc ac nr so) {a : Int64} {k : Nat} (hk2 : k < 2 ^ 24) (hj : fdK na ak 3 a k na 0 = none) (hn : na < 24) {r : Nat} {x : Rsc} (hf : fdS so a k = some r) (hx : so r = some x) {SF : Nat → List Nat} {d : Nat} (ht : TyE SF d x.2.2) (hd : d ≤ 40) {H : Hp} {m : Nat} {s0 : Int32} (hH : HC z H m s0) (hm : m + x.2.2.length ≤ 21600) (hw : ws 3 a k = true) : ∃ z' H', fn_X2_ask F sh n z 104 3 a (nI (k / 256)) (nI (k % 256)) = some (z', nI na) ∧ CJ z' (na + 1) (upA ak na (3, a, k, 0, true, m)) (fun e => if e = na then m else cn e) ws ∧ FrJ z z' ∧ HC z' H' (m + x.2.2.length) s0 ∧ (∀ i, i < m → H' i = H i) ∧ Enc H' d m x.2.2 := by
  have hk : KyOk 3 a k := Or.inr (Or.inr ⟨rfl, hk2⟩)
  have e0 := cask_0 (F := F) hF hL h hk hj hn
  obtain ⟨j1, j2, j3, j4, j5, j6⟩ := jz_o (z := z) (na := na) (s := 3) (k := k) (a := a)
  have Lz : Lay sh n (jz z na 3 a k) := hL.of rfl
  have fz := jz_fr (z := z) (na := na) (s := 3) (k := k) (a := a)
  have Gz : CLg (jz z na 3 a k) nc ac nr so := hg.of (fun k k1 k2 => fz.2 k (by omega) (by omega))
  have fa := cfindR_t (F := F) hF Lz Gz (x := a) hk2
  have hr := fd_lt 256 0 r hf
  have sl := (Gz.2.2.2 r (by omega)).2 x hx
  obtain ⟨_, _, _, _, _, x6, x7, x8⟩ := sl
  have Hz : HC (jz z na 3 a k) H m s0 := hH.mv (fun i i1 i2 => by
    unfold jz
    constructor
    · rw [si_ok (by omega), sl_1, si_ok (by omega), si_ok (by omega), sl_1, si_ok (by omega), si_ok (by omega)]
    · rw [si_2, sl_ok (by omega), si_2, si_2, sl_ok (by omega), si_2, si_2])
  obtain ⟨z3, H', l1, l2, l3, l4, l5⟩ := load_t (F := F) hF Lz Hz ht hd x8 (by omega) x7 hm
  have L3 := Lz.of l5.1
  have o12 : okA sh n 112 101 (nI na) = true := by rw [lay_a hL 112 101 24 (by decide) rfl]; exact okI_nI (by omega) (by omega)
  have cp : (nI na).toNatClampNeg = na := nI_clamp (by omega)
  have eM : ckM 3 a k = k / 256 := rfl
  have eS : ckS 3 k = k % 256 := rfl
  have eA : ckA 3 a = a := rfl
  obtain ⟨y1, y2⟩ := oI0 r (by omega)
  have L4 : Lay sh n (si z3 112 na (nI m)) := L3.of rfl
  have B : fn_X2_ask_B236 F sh n 112 (nI na) 104 (oI (some r)) z3 (nI m) = some (jE (si z3 112 na (nI m)) na true, nI na) := by
    unfold fn_X2_ask_B236
    rw [o12, grd_true, cp, lt_t, jE_t L4 hn (b := true) (by constructor <;> intro y; exact absurd y y2; exact absurd y (by decide))]
  rw [if_neg (by decide), if_pos (by decide), eM, eS, eA, fa, cal_s, hf, Lz.2.2 104 10 112 rfl, lnk_s, if_pos y1, Lz.2.2 104 1 88 rfl, lnk_s, Lz.2.2 104 0 3 rfl, lnk_s, (b_heap hL).1, grd_true, show oI (some r) = nI r from rfl, l1, cal_s, show nI r = oI (some r) from rfl, B] at e0
  have k3 : ∀ i, 104 ≤ i → i ≤ 112 → z3.1 i = (jz z na 3 a k).1 i ∧ z3.2.1 i = (jz z na 3 a k).2.1 i := fun i i1 i2 => l5.2 i (by omega)
  refine ⟨_, H', e0, jE_new (z1 := si z3 112 na (nI m)) (b := true) (th := true) h hn hj hk (fun i j i1 i2 hj => ⟨?_, ?_⟩) ?_ ?_ ?_ ?_ ?_ rfl (.inr hw) (fun q => absurd q (by decide)) (fun _ _ => si_ss), ((fz.trans (FrJ.hp l5)).trans (FrJ.si (by omega))).trans jE_fr, ?_, l3, l4⟩
  · rw [si_oj hj, (k3 i (by omega) i2).1]; exact (j2 i j i1 i2 hj).1
  · rw [si_2, (k3 i (by omega) i2).2]; exact (j2 i j i1 i2 hj).2
  · rw [si_ok (by omega), (k3 104 (by omega) (by omega)).1]; exact j1
  · rw [si_ok (by omega), (k3 105 (by omega) (by omega)).1]; exact j3
  · rw [si_2, (k3 106 (by omega) (by omega)).2]; exact j4
  · rw [si_ok (by omega), (k3 107 (by omega) (by omega)).1]; exact j5
  · rw [si_ok (by omega), (k3 108 (by omega) (by omega)).1]; exact j6
  · refine l2.mv (fun i i1 i2 => ?_)
    unfold jE
    exact ⟨by rw [si_ok (by omega), si_ok (by omega), si_ok (by omega)], rfl⟩
end
