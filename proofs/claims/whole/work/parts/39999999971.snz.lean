/-! A CALL AS A WHOLE, from both sides' first frame to their last write -/
section
variable {E : Ev} {F n : Nat} {sh : Nat → Nat × Nat} {pk kr : Nat → Nat} {lim : Nat} {z y : St} {Ms : Nat → Option Md} {Ce : Nat → Nat → Nat → Lks}
variable {sd : Int64} {nc nr : Nat} {ac acC : Nat → Int64 × Int64 × Int64} {rs : Nat → Int64 × Nat × Hp × Nat} {so : Nat → Option Rsc} {u f c t md : Nat} {kd : Nat → Nat} {hi lo : Nat → Int64} {U : Md}
theorem lay_W {z : St} (hL : Lay sh n z) : WM sh n z.2.2 368 369 370 371 := by
  have h := hL.1
  exact ⟨by omega, by rw [hL.2.1 368 (by omega)]; rfl, by omega, by rw [hL.2.1 369 (by omega)]; rfl, by omega, by rw [hL.2.1 370 (by omega)]; rfl, by omega, by rw [hL.2.1 371 (by omega)]; rfl, hL.2.2 368 0 369 rfl, hL.2.2 368 1 370 rfl, hL.2.2 368 2 371 rfl, by omega, by omega, by omega⟩
theorem FrB.rl {z z' : St} (f : FrB z z') (h : RLg z nc ac nr rs) : RLg z' nc ac nr rs := h.keepB f
theorem call_all (hF : 20002 ≤ F) (hE : EvOk E) (hA : EvA E) (hC : E.2.1 256 ≤ 38 ∧ E.2.1 11 ≤ 38) (hsl : ¬ y.1 88 6 + 1 < y.1 88 6) (wd : Wld E Ms Ce) (lw : LgW pk Ms) (dy : DyY F sh n z y kr pk Ms) (rl : RLg z nc ac nr rs) (cg : CLg y nc acC nr so) (rp : RsP E E.1 nr rs so) (ar : AcR sd lim nc ac acC) (n5 : z.1 337 5 = nI md) (k5 : y.1 3 5 = nI md) (hpl : nc + md + nr ≤ 256)
    (hL : Lay sh n z) (hr : Run z) (h26 : z.1 337 26 = nI 0) (h25 : z.1 337 25 = nI lim) (hl : lim ≤ 20000) (h24 : z.2.1 337 24 = sd) (rx : RxA sh n z t c f kd hi lo) (m5 : z.1 404 t = nI U.1.1) (r0 : z.1 416 t = nI 0)
    (hLc : Lay sh n y) (t3 : y.1 (113 + 7 * t) 3 = nI lim) (t1 : y.2.1 (113 + 7 * t) 1 = sd) (t4 : y.1 (113 + 7 * t) 4 = nI U.1.1) (t5 : y.1 (113 + 7 * t) 5 = nI f) (tx : TxA sh n y (113 + 7 * t) c kd hi lo) (c15 : y.1 (113 + 7 * t) 15 = nI 0)
    (eU : Ms u = some U) (hf : f < fsOf U) (tl : (tksOf U f).length = c) (tk : ∀ i, i < c → (tksOf U f).getD i [] = [kd i]) (gl : (gvsOf U f).length ≤ 8) (gp : ∀ k, k < (gvsOf U f).length → ∃ q, 1 ≤ q ∧ q ≤ 5 ∧ (gvsOf U f).getD k [] = [q]) (ht : t < 32) (hk : ∀ i, i < c → 1 ≤ kd i ∧ kd i ≤ 5 ∧ LTm E (kd i) (kd i, hi i, lo i, []) []) (hld : LdE E sd nc ac nr rs) (hld0 : N (acB nc ac sd - lN lim) ≤ E.2.2.2.2 1 sd 0) {K : Nat → (Nat → Int64 × Int64 × Int64) → Nat → (Nat → Int64 × Nat × Hp × Nat) → Prop} (hK0 : K nc ac nr rs) (hK1 : KEnd E sd lim nc ac nr rs K) {x2 : Int32} :
    ∃ z' y' zr zc, fn_X18_callOne F sh n z 337 (nI t) (nI u) x2 = some (z', ()) ∧ fn_X4_run F sh n y 87 (113 + 7 * t) = some (y', ()) ∧ FrB z zr ∧ FrY y zc ∧ CallQ E sh n t sd lim md K (y.1 88 6) zr zc z' y' := by
  have hfd := ar.fd sd
  obtain ⟨i, qi⟩ : ∃ i, fdA nc ac sd = some i := by
    have := ar.1.1
    cases q : fdA nc ac sd with
    | none => rw [q] at this; exact absurd this (by simp)
    | some i => exact ⟨i, rfl⟩
  have hi' := fd_lt _ _ _ qi
  have ni : (ac i).1 = sd := by simpa using hi'.2.2
  have hB : acB nc acC sd = acB nc ac sd - lN lim := by
    unfold acB
    rw [hfd, qi]
    show (acC i).2.1 = (ac i).2.1 - lN lim
    rw [(ar.2 i (by omega)).2.2, if_pos ni]
  have hT : acT nc acC sd = acT nc ac sd := by unfold acT; rw [hfd]
  have lg : LgR E E.1 sd nc ac acC nr rs so (fun s a k => wasT nc ac nr rs (s, a, k, 0, false, 0)) := ⟨fun j hj => ⟨(ar.2 j hj).1, fun q => by rw [(ar.2 j hj).2.2, if_neg q]⟩, rp.r, fun _ => rfl, hld⟩
  obtain ⟨zr, zc, a1, a2, a3, a4, a5, a6⟩ := call_sim (F := F) (c := c) (kd := kd) (hi := hi) (lo := lo) (t := t) (u := u) (f := f) (U := U) (x2 := x2) (nrc := nr) hF (fun z hz => lay_W hz) hE hA hC hsl wd lw dy rl cg lg hL hr h26 h25 hl h24 rx (hL.2.2 337 58 404 rfl) (by omega) (by unfold mcl; omega) (by rw [lay_a hL 404 101 32 (by decide) rfl]; exact okI_nI ht (by omega)) m5 hLc (lay_o hLc _ 8 0 (by omega) (tx_sh t ht).1) (by omega) t3 t1 t4 t5 tx hB hT eU hf tl tk (by omega) hk hld0 (by unfold acT; rw [qi]; rfl)
  have rl' := rl.keepB a3
  have cg' : CLg zc nc acC nr so := cg.of (fun k k1 k2 => a4.2 k (by omega))
  have c15' : zc.1 (113 + 7 * t) 15 = nI 0 := by rw [(a4.2 _ (by omega)).1]; exact c15
  have t3' : zc.1 (113 + 7 * t) 3 = nI lim := by rw [(a4.2 _ (by omega)).1]; exact t3
  have r0' : zr.1 416 t = nI 0 := by rw [(a3.2.1 416 (by omega) (by unfold mcl; omega)).1]; exact r0
  have n5' : zr.1 337 5 = nI md := by rw [(a3.2.2 5 (by unfold mfl; omega)).1]; exact n5
  have k5' : zc.1 3 5 = nI md := by rw [(a4.2 3 (by omega)).1]; exact k5
  have h25' : zr.1 337 25 = nI lim := by rw [(a3.2.2 25 (by unfold mfl; omega)).1]; exact h25
  rcases a6 with ⟨o, c', g, ho, re, ce⟩ | ⟨na, ak, g, al, dn⟩
  · obtain ⟨z', y', b1, b2, b3⟩ := call_bad (F := F) (lim := lim) ho re ce rl' cg' rp ar hpl ht a5 t3' hl hK0 c15' r0'
    exact ⟨z', y', zr, zc, a1.trans b1, a2.trans b2, a3, a4, b3⟩
  · have j0 := al.2.2 0 (by omega)
    obtain ⟨z', y', b1, b2, b3⟩ := call_end (F := F) (lim := lim) (by omega) hE hA dn ⟨Nat.lt_of_lt_of_le (by omega) al.1, j0.1, j0.2.1⟩ eU gl gp rl' cg' rp ar (fun _ => rfl) n5' k5' hpl h25' hl ht a5 t3' hl hK0 c15' r0' hK1
    exact ⟨z', y', zr, zc, a1.trans b1, a2.trans b2, a3, a4, b3⟩
end
