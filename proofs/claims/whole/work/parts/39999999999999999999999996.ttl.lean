/-! WHAT IS REFUSED: a call's module, function and arguments -/
def tkB (ts : List Ty) (kd : Nat → Nat) : Nat → Nat → Bool
  | 0, _ => true
  | r + 1, p => decide (ts.getD p [] = [kd p]) && tkB ts kd r (p + 1)
def gvB (ts : List Ty) : Nat → Nat → Bool
  | 0, _ => true
  | r + 1, p => decide (tV (ts.getD p []) ≤ 5) && gvB ts r (p + 1)
theorem tkB_t {ts : List Ty} {kd : Nat → Nat} : ∀ r p, tkB ts kd r p = true → ∀ i, p ≤ i → i < p + r → ts.getD i [] = [kd i]
  | 0, p, _, i, h1, h2 => absurd h2 (by omega)
  | r + 1, p, h, i, h1, h2 => by
    unfold tkB at h
    rw [Bool.and_eq_true, decide_eq_true_eq] at h
    by_cases c : i = p
    · rw [c]; exact h.1
    · exact tkB_t r (p + 1) h.2 i (by omega) (by omega)
theorem gvB_t {ts : List Ty} : ∀ r p, gvB ts r p = true → ∀ i, p ≤ i → i < p + r → tV (ts.getD i []) ≤ 5
  | 0, p, _, i, h1, h2 => absurd h2 (by omega)
  | r + 1, p, h, i, h1, h2 => by
    unfold gvB at h
    rw [Bool.and_eq_true, decide_eq_true_eq] at h
    by_cases c : i = p
    · rw [c]; exact h.1
    · exact gvB_t r (p + 1) h.2 i (by omega) (by omega)
theorem TB.plain {t : Ty} (h : TB t) (h5 : tV t ≤ 5) : ∃ q, 1 ≤ q ∧ q ≤ 5 ∧ t = [q] := by
  obtain ⟨b, p, e, b1, b2⟩ := h.ne
  have hd := h.head
  subst e
  cases p with
  | nil =>
    refine ⟨b, b1, ?_, rfl⟩
    have : tV [b] = b := by simp [tV]
    omega
  | cons x p =>
    exfalso
    have e1 : hdT (b :: x :: p) = b := rfl
    rw [e1] at hd
    have e2 : (b :: x :: p).length - 1 = p.length + 1 := rfl
    rw [e2] at hd
    have : tV (b :: x :: p) / 256 ^ (p.length + 1) = 0 := by
      apply Nat.div_eq_of_lt
      have : 0 < 256 ^ p.length := Nat.pow_pos (by omega)
      have e3 : 256 ^ (p.length + 1) = 256 ^ p.length * 256 := Nat.pow_succ ..
      omega
    omega
theorem TB.pos {t : Ty} (h : TB t) : 1 ≤ tV t := by
  have hd := h.head
  obtain ⟨b, p, e, b1, b2⟩ := h.ne
  by_cases c : tV t = 0
  · rw [c] at hd
    have : hdT t = b := by rw [e]; rfl
    simp at hd
    omega
  · omega
def rfU (U : Md) (f c : Nat) (kd : Nat → Nat) : Nat := if f < fsOf U then (if (nI (fnOf U f).1 &&& 2 : Int32) = 0 then 6 else if (decide ((tksOf U f).length = c) && tkB (tksOf U f) kd c 0) = true then (if gvB (gvsOf U f) (gvsOf U f).length 0 = true then 0 else 8) else 7) else 5
def rfN (ws : Nat → Md) (wc m f c : Nat) (kd : Nat → Nat) : Nat := match wfi ws m (wc + 1) 0 with
  | some i => rfU (ws i) f c kd
  | none => 4
theorem bI_1 : bI true = 1 := rfl
theorem bI_0 : bI false = 0 := rfl
theorem getT_mem {ts : List Ty} {k : Nat} (h : k < ts.length) : ts.getD k [] ∈ ts := by
  rw [List.getD_eq_getElem?_getD, List.getElem?_eq_getElem h]
  exact List.getElem_mem h
section
variable {F n : Nat} {sh : Nat → Nat × Nat} {z y : St} {ws : Nat → Md} {wc : Nat} {dp : Nat → Nat → Nat} {U : Md} {kp t f c ku len : Nat} {kd : Nat → Nat} {b : Nat → Nat} {M : MP}
theorem tk_eq {ts : List Ty} (hT : ∀ x, x ∈ ts → TB x) {p : Nat} (hp : p < ts.length) (hk : 1 ≤ kd p ∧ kd p ≤ 5) : (tL (ts.getD p []) = (nI (kd p)).toInt64) ↔ ts.getD p [] = [kd p] := by
  rw [lIi (by omega), ← tLk]
  exact (hT _ (getT_mem hp)).inj (TBk hk.1 hk.2)
theorem fitsT_L (hL : Lay sh n y) (ht : t < 32) (cn : CnL F sh n y kp U) (hf : f < faOf U) (hT : ∀ x, x ∈ tksOf U f → TB x) (h5 : y.1 (113 + 7 * t) 5 = nI f) (h7 : y.1 (113 + 7 * t) 7 = nI c) (hc : c ≤ 8) (hk : ∀ i, i < c → 1 ≤ kd i ∧ kd i ≤ 5) (ha : ∀ i, i < c → y.1 (113 + 7 * t + 1) i = nI (kd i)) (hl : (tksOf U f).length = c) : ∀ r p g, p + r = c → r < g → fn_X8_fits_L19 F sh n (113 + 7 * t) kp g y (nI p) = some (y, bI (tkB (tksOf U f) kd r p)) := by
  intro r
  induction r with
  | zero =>
    intro p g h1 h2
    obtain ⟨g, rfl⟩ : ∃ q, g = q + 1 := ⟨g - 1, by omega⟩
    unfold fn_X8_fits_L19
    rw [h7, if_pos ((nI_leW (by omega) (by omega)).mpr (by omega))]; rfl
  | succ r ih =>
    intro p g h1 h2
    obtain ⟨g, rfl⟩ : ∃ q, g = q + 1 := ⟨g - 1, by omega⟩
    have := ih (p + 1) g (by omega) (by omega)
    obtain ⟨s1, s2, s3, s4, s5, s6⟩ := tx_s2 t ht
    unfold fn_X8_fits_L19 tkB
    rw [h7, if_neg (fun e => by have := (nI_leW (a := c) (b := p) (by omega) (by omega)).mp e; omega), h5, (cn.2.1 f hf).2.1 p (by omega), cal_s, hL.2.2 _ 8 _ s4, lnk_s, lay_a hL _ 101 8 (by omega) s1, okI_nI (by omega) (by omega), grd_true, nI_clamp (by omega), ha p (by omega)]
    by_cases e : (tksOf U f).getD p [] = [kd p]
    · rw [if_pos ((tk_eq hT (by omega) (hk p (by omega))).mpr e), decide_eq_true e, Bool.true_and, show nI p + 1 = nI (p + 1) from nI_add p 1]
      exact this
    · rw [if_neg (fun q => e ((tk_eq hT (by omega) (hk p (by omega))).mp q)), decide_eq_false e, Bool.false_and]; rfl
theorem fits_c (hF : 20 ≤ F) (hL : Lay sh n y) (ht : t < 32) (cn : CnL F sh n y kp U) (hf : f < faOf U) (hT : ∀ x, x ∈ tksOf U f → TB x) (hk8 : (tksOf U f).length ≤ 8) (h5 : y.1 (113 + 7 * t) 5 = nI f) (h7 : y.1 (113 + 7 * t) 7 = nI c) (hc : c ≤ 8) (hk : ∀ i, i < c → 1 ≤ kd i ∧ kd i ≤ 5) (ha : ∀ i, i < c → y.1 (113 + 7 * t + 1) i = nI (kd i)) : fn_X8_fits F sh n y (113 + 7 * t) kp = some (y, bI (decide ((tksOf U f).length = c) && tkB (tksOf U f) kd c 0)) := by
  unfold fn_X8_fits
  rw [lay_o hL _ 8 0 (by omega) (tx_sh t ht).1, grd_true, cn.1, grd_true, h5, (cn.2.1 f hf).1.1, cal_s, h7]
  by_cases e : (tksOf U f).length = c
  · rw [if_pos (by rw [e]), decide_eq_true e, Bool.true_and]
    exact fitsT_L hL ht cn hf hT h5 h7 hc hk ha e c 0 F (by omega) (by omega)
  · rw [if_neg (fun q => e (nI_uq q (by omega) (by omega))), decide_eq_false e, Bool.false_and]; rfl
theorem plain_L (cn : CnL F sh n y kp U) (hf : f < faOf U) (hT : ∀ x, x ∈ gvsOf U f → TB x) (h8 : (gvsOf U f).length ≤ 8) : ∀ r p g, p + r = (gvsOf U f).length → r < g → fn_X5_givesPlain_L2 F sh n kp (nI f) g y (nI p) = some (y, bI (gvB (gvsOf U f) r p)) := by
  intro r
  induction r with
  | zero =>
    intro p g h1 h2
    obtain ⟨g, rfl⟩ : ∃ q, g = q + 1 := ⟨g - 1, by omega⟩
    unfold fn_X5_givesPlain_L2
    rw [cn.1, grd_true, (cn.2.1 f hf).1.2.1, cal_s, if_pos ((nI_leW (by omega) (by omega)).mpr (by omega))]; rfl
  | succ r ih =>
    intro p g h1 h2
    obtain ⟨g, rfl⟩ : ∃ q, g = q + 1 := ⟨g - 1, by omega⟩
    have := ih (p + 1) g (by omega) (by omega)
    have tb := hT _ (getT_mem (k := p) (by omega))
    have p1 := tb.pos
    have p2 := tb.lt.1
    unfold fn_X5_givesPlain_L2 gvB
    rw [cn.1, grd_true, (cn.2.1 f hf).1.2.1, cal_s, if_neg (fun e => by have := (nI_leW (a := (gvsOf U f).length) (b := p) (by omega) (by omega)).mp e; omega), (cn.2.1 f hf).2.2 p (by omega), cal_s]
    unfold tL
    rw [if_neg (fun e => by have := (lNlt (k := tV ((gvsOf U f).getD p [])) (x := (1 : Int64)) 1 rfl (by omega) (by omega)).mp e; omega)]
    by_cases e : tV ((gvsOf U f).getD p []) ≤ 5
    · rw [if_pos ((lNle (x := (5 : Int64)) 5 rfl (by omega) (by omega)).mpr e), decide_eq_true e, Bool.true_and, show nI p + 1 = nI (p + 1) from nI_add p 1]
      exact this
    · rw [if_neg (fun q => e ((lNle (x := (5 : Int64)) 5 rfl (by omega) (by omega)).mp q)), decide_eq_false e, Bool.false_and]; rfl
theorem ref_L161 (hF : 300 ≤ F) (um : UM sh n z ku b len M) (hf : f < M.2.2.2.2.length) (hT : ∀ x, x ∈ gvsOf (mdOf b M) f → TB x) (h8 : (gvsOf (mdOf b M) f).length ≤ 8) : ∀ r p g, p + r = (gvsOf (mdOf b M) f).length → r < g → fn_X18_refusal_L161 F sh n ku (nI f) g z (nI p) = some (z, if gvB (gvsOf (mdOf b M) f) r p = true then 0 else 8) := by
  have hm := um.many hF (f := f) (l := 1) (by omega) (by omega) (fun _ => by omega)
  intro r
  induction r with
  | zero =>
    intro p g h1 h2
    obtain ⟨g, rfl⟩ : ∃ q, g = q + 1 := ⟨g - 1, by omega⟩
    unfold fn_X18_refusal_L161
    rw [show (1 : Int32) = nI 1 from rfl, hm, cal_s, if_pos ((nI_leW (by show (gvsOf (mdOf b M) f).length < _; omega) (by omega)).mpr (by show (gvsOf (mdOf b M) f).length ≤ _; omega))]; rfl
  | succ r ih =>
    intro p g h1 h2
    obtain ⟨g, rfl⟩ : ∃ q, g = q + 1 := ⟨g - 1, by omega⟩
    have := ih (p + 1) g (by omega) (by omega)
    have tb := hT _ (getT_mem (k := p) (by omega))
    have p2 := tb.lt.1
    have hl := um.listed hF (f := f) (l := 1) (by omega) (by omega) (fun _ => by omega) (i := p) (by show p < (gvsOf (mdOf b M) f).length; omega)
    unfold fn_X18_refusal_L161 gvB
    rw [show (1 : Int32) = nI 1 from rfl, hm, cal_s, if_neg (fun e => by have := (nI_leW (a := (gvsOf (mdOf b M) f).length) (b := p) (by omega) (by omega)).mp e; omega), hl, cal_s]
    show (if tL ((gvsOf (mdOf b M) f).getD p []) ≤ 5 then _ else _) = _
    unfold tL
    by_cases e : tV ((gvsOf (mdOf b M) f).getD p []) ≤ 5
    · rw [if_pos ((lNle (x := (5 : Int64)) 5 rfl (by omega) (by omega)).mpr e), decide_eq_true e, Bool.true_and, nI_add p 1]
      exact this
    · rw [if_neg (fun q => e ((lNle (x := (5 : Int64)) 5 rfl (by omega) (by omega)).mp q)), decide_eq_false e, Bool.false_and]; rfl
theorem ref_L95 (hF : 300 ≤ F) (um : UM sh n z ku b len M) (ht : t < 32) (hf : f < M.2.2.2.2.length) (hT : ∀ x, x ∈ tksOf (mdOf b M) f → TB x) (h6 : z.1 406 t = nI c) (hc : c ≤ 8) (hk : ∀ i, i < c → 1 ≤ kd i ∧ kd i ≤ 5) (ha : ∀ i, i < c → z.1 407 (8 * t + i) = nI (kd i)) (hl : (tksOf (mdOf b M) f).length = c) : ∀ r p g, p + r = c → r < g → fn_X18_refusal_L95 F sh n 337 (nI t) ku (nI f) g z 1 (nI p) = fn_X18_refusal_B150 F sh n ku (nI f) z (bI (tkB (tksOf (mdOf b M) f) kd r p)) := by
  have hL := um.1.1
  intro r
  induction r with
  | zero =>
    intro p g h1 h2
    obtain ⟨g, rfl⟩ : ∃ q, g = q + 1 := ⟨g - 1, by omega⟩
    unfold fn_X18_refusal_L95
    rw [hL.2.2 337 60 406 rfl, lnk_s, md_at hL ht 406 101 rfl (by decide), grd_true, nI_clamp (by omega), h6, if_pos ((nI_leW (by omega) (by omega)).mpr (by omega))]; rfl
  | succ r ih =>
    intro p g h1 h2
    obtain ⟨g, rfl⟩ : ∃ q, g = q + 1 := ⟨g - 1, by omega⟩
    have := ih (p + 1) g (by omega) (by omega)
    have hls := um.listed hF (f := f) (l := 0) (by omega) (by omega) (fun _ => by omega) (i := p) (by show p < (tksOf (mdOf b M) f).length; omega)
    have e8 : (8 * nI t + nI p : Int32) = nI (8 * t + p) := by
      rw [show (8 : Int32) = nI 8 from rfl, pk_mul, nI_add]
    have nl : ¬ nI c ≤ nI p := fun e => by have := (nI_leW (a := c) (b := p) (by omega) (by omega)).mp e; omega
    have hls' : fn_X16_listed F sh n z ku (nI f) 0 (nI p) = some (z, tL ((tksOf (mdOf b M) f).getD p [])) := hls
    unfold fn_X18_refusal_L95 tkB
    rw [hL.2.2 337 60 406 rfl, lnk_s, md_at hL ht 406 101 rfl (by decide), grd_true, nI_clamp (by omega), h6, if_neg nl, if_neg (show ¬ ((1 : Int32) = 0) by decide), hls', cal_s, hL.2.2 337 61 407 rfl, lnk_s, e8, lay_a hL 407 100 256 (by decide) rfl, okI_nI (by omega) (by omega), grd_true, nI_clamp (by omega), ha p (by omega)]
    unfold fn_X18_refusal_B142
    by_cases e : (tksOf (mdOf b M) f).getD p [] = [kd p]
    · rw [if_pos ((tk_eq hT (by omega) (hk p (by omega))).mpr e), decide_eq_true e, Bool.true_and, show nI p + 1 = nI (p + 1) from nI_add p 1]
      exact this
    · rw [if_neg (fun q => e ((tk_eq hT (by omega) (hk p (by omega))).mp q)), decide_eq_false e, Bool.false_and]
      obtain ⟨g, rfl⟩ : ∃ q, g = q + 1 := ⟨g - 1, by omega⟩
      show fn_X18_refusal_L95 F sh n 337 (nI t) ku (nI f) (g + 1) z 0 (nI p + 1) = _
      unfold fn_X18_refusal_L95
      rw [hL.2.2 337 60 406 rfl, lnk_s, md_at hL ht 406 101 rfl (by decide), grd_true]
      by_cases w : z.1 406 (nI t).toNatClampNeg ≤ nI p + 1
      · rw [if_pos w]; rfl
      · rw [if_neg w]; rfl
/-- the module's number is looked for, whatever it is -/
theorem RWo.findAny (hF : 20 ≤ F) (h : RWo sh n z ws wc dp) (x : Int32) : ∃ i, i ≤ wc ∧ fn_X18_findModule F sh n z 337 x = some (z, nI i) ∧ (1 ≤ i → nI (ws i).1.1 = x) := by
  obtain ⟨hL, h2, h3, h4⟩ := h
  have lp : ∀ p g, p ≤ wc → p < g → ∃ i, i ≤ wc ∧ fn_X18_findModule_L5 F sh n 337 x g z (nI p) = some (z, nI i) ∧ (1 ≤ i → nI (ws i).1.1 = x) := by
    intro p
    induction p with
    | zero =>
      intro g hp hg
      obtain ⟨g, rfl⟩ : ∃ q, g = q + 1 := ⟨g - 1, by omega⟩
      refine ⟨0, by omega, ?_, fun q => by omega⟩
      unfold fn_X18_findModule_L5
      rw [if_pos (show nI 0 ≤ 0 by decide)]
    | succ p ih =>
      intro g hp hg
      obtain ⟨g, rfl⟩ : ∃ q, g = q + 1 := ⟨g - 1, by omega⟩
      obtain ⟨⟨b, len, M, c1, c2, c3, c4, c5⟩, _⟩ := h4 (p + 1) (by omega) hp
      have lk := (b_units hL (i := p + 1) (by omega)).1
      have e1 : (nI (p + 1) : Int32) + (-1) = nI p := by
        rw [← Int32.sub_eq_add_neg]; exact pk_sub (a := p + 1) (b := 1) (by omega)
      have np : ¬ nI (p + 1) ≤ 0 := fun e => by
        have := (nI_leW (a := p + 1) (b := 0) (by omega) (by omega)).mp e
        omega
      obtain ⟨i, i1, i2, i3⟩ := ih g (by omega) (by omega)
      have num : (ws (p + 1)).1.1 = shB b 4 := by rw [c2]; rfl
      have key : fn_X18_findModule_L5 F sh n 337 x (g + 1) z (nI (p + 1)) = if nI (shB b 4) = x then some (z, nI (p + 1)) else fn_X18_findModule_L5 F sh n 337 x g z (nI p) := by
        rw [fn_X18_findModule_L5]
        rw [if_neg np, hL.2.2 337 4 341 rfl, lnk_s, lay_a hL 341 106 10 (by decide) rfl, okI_nI (by omega) (by omega), grd_true, nI_clamp (by omega), lk, lnk_s, c1.1.o, grd_true, c1.1.number c4, cal_s, e1]
      by_cases q : nI (shB b 4) = x
      · exact ⟨p + 1, hp, by rw [key, if_pos q], fun _ => by rw [num]; exact q⟩
      · exact ⟨i, i1, by rw [key, if_neg q]; exact i2, i3⟩
  obtain ⟨i, i1, i2, i3⟩ := lp wc F (by omega) (by omega)
  refine ⟨i, i1, ?_, i3⟩
  unfold fn_X18_findModule
  rw [(b_model hL).1, grd_true, h2, lt_t]
  exact i2
end
