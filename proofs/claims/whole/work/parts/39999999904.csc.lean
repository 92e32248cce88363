/-! THE CLASS'S JOURNAL: a place is asked for first -/
theorem si_ss {z : St} {k j : Nat} {v : Int32} : (si z k j v).1 k j = v := by simp [si_1]
theorem sl_ss {z : St} {k j : Nat} {v : Int64} : (sl z k j v).2.1 k j = v := by simp [sl_2]
section
variable {F n : Nat} {sh : Nat → Nat × Nat} {z z' : St} {nc nr na : Nat} {ac : Nat → Int64 × Int64 × Int64} {so : Nat → Option Rsc} {ak : Nat → Ask} {cn : Nat → Nat} {ws : Nat → Int64 → Nat → Bool}
def jE (z : St) (na : Nat) (b : Bool) : St := si (si z 109 na (bI b)) 110 na (bI b)
theorem jE_fr {b : Bool} : FrJ z (jE z na b) := (FrJ.si (by omega)).trans (FrJ.si (by omega))
theorem jE_t (hL : Lay sh n z) (hn : na < 24) {p : Int32} {b : Bool} (hb : p < 0 ↔ b = false) : fn_X2_ask_B237 F sh n 104 (nI na) z p = some (jE z na b, nI na) := by
  have o9 : okA sh n 109 103 (nI na) = true := by rw [lay_a hL 109 103 24 (by decide) rfl]; exact okI_nI (by omega) (by omega)
  have o0 : okA sh n 110 103 (nI na) = true := by rw [lay_a hL 110 103 24 (by decide) rfl]; exact okI_nI (by omega) (by omega)
  have cp : (nI na).toNatClampNeg = na := nI_clamp (by omega)
  unfold fn_X2_ask_B237
  rw [hL.2.2 104 6 109 rfl, lnk_s]
  have L2 : ∀ v, Lay sh n (si z 109 na v) := fun v => hL.of rfl
  cases b with
  | false =>
    have c : p < 0 := hb.mpr rfl
    rw [if_pos c]
    unfold fn_X2_ask_B253
    rw [o9, grd_true, cp, lt_t, (L2 _).2.2 104 8 110 rfl, lnk_s, if_pos c, o0, grd_true, lt_t]
    rfl
  | true =>
    have c : ¬ p < 0 := fun q => absurd (hb.mp q) (by decide)
    rw [if_neg c]
    unfold fn_X2_ask_B253
    rw [o9, grd_true, cp, lt_t, (L2 _).2.2 104 8 110 rfl, lnk_s, if_neg c, o0, grd_true, lt_t]
    rfl
/-- the rows of a new place -/
theorem jE_new (h : CJ z na ak cn ws) (hn : na < 24) {s k : Nat} {a : Int64} (hj : fdK na ak s a k na 0 = none) (hk : KyOk s a k) {z1 : St} (f1 : ∀ i j, 105 ≤ i → i ≤ 112 → j ≠ na → z1.1 i j = z.1 i j ∧ z1.2.1 i j = z.2.1 i j) (r0 : z1.1 104 7 = nI (na + 1)) (r1 : z1.1 105 na = nI s) (r2 : z1.2.1 106 na = ckA s a) (r3 : z1.1 107 na = nI (ckM s a k)) (r4 : z1.1 108 na = nI (ckS s k)) {bal : Int64} {th b : Bool} {t c : Nat} (hb : b = if s = 2 then true else th) (hw : s = 2 ∨ ws s a k = th) (r5 : s = 1 → z1.2.1 111 na = bal) (r6 : s = 3 → th = true → z1.1 112 na = nI c) : CJ (jE z1 na b) (na + 1) (upA ak na (s, a, k, bal, th, t)) (fun e => if e = na then c else cn e) ws := by
  refine h.new hn (fdK_no hj) (by unfold jE; rw [si_ok (by omega), si_ok (by omega)]; exact r0) (fun i j i1 i2 hj => ⟨?_, (f1 i j i1 i2 hj).2⟩) ?_
  · unfold jE
    rw [si_oj hj, si_oj hj]
    exact (f1 i j i1 i2 hj).1
  · refine ⟨hk, by unfold jE; rw [si_ok (by omega), si_ok (by omega)]; exact r1, ⟨r2, by unfold jE; rw [si_ok (by omega), si_ok (by omega)]; exact r3, by unfold jE; rw [si_ok (by omega), si_ok (by omega)]; exact r4⟩, ?_, ?_, fun q => ⟨r5 q, fun w => ?_⟩, fun x y => by unfold jE; rw [si_ok (by omega), si_ok (by omega)]; exact r6 x y⟩
    · show (si (si z1 109 na (bI b)) 110 na (bI b)).1 109 na = bI (if s = 2 then true else ws s a k)
      rw [si_ok (by omega), si_ss, hb]
      rcases hw with hw | hw
      · rw [if_pos hw, if_pos hw]
      · rw [hw]
    · show (si (si z1 109 na (bI b)) 110 na (bI b)).1 110 na = bI (if s = 2 then true else th)
      rw [si_ss, hb]
    · have q' : s = 1 := q
      have w' : ws s a k = true := w
      rcases hw with hw | hw
      · omega
      · exact hw.symm.trans w'
theorem cask_0 (hF : 300 ≤ F) (hL : Lay sh n z) (h : CJ z na ak cn ws) {s k : Nat} {a : Int64} (hk : KyOk s a k) (hj : fdK na ak s a k na 0 = none) (hn : na < 24) : fn_X2_ask F sh n z 104 (nI s) (ckA s a) (nI (ckM s a k)) (nI (ckS s k)) = (if nI s = 1 then cal (fn_X7_findAccount F sh n (jz z na s a k) 3 (ckA s a)) (fun z_72 r_73 => lnk (z_72.2.2 104 9) (fun k_76 => if (0 : Int32) ≤ r_73 then lnk (z_72.2.2 104 0) (fun k_83 => grd (okO sh n k_83 7) (lnk (z_72.2.2 k_83 1) (fun k_85 => grd (okA sh n k_85 102 r_73) (fn_X2_ask_B185 F sh n k_76 (nI na) 104 r_73 z_72 (z_72.2.1 k_85 r_73.toNatClampNeg))))) else fn_X2_ask_B185 F sh n k_76 (nI na) 104 r_73 z_72 0)) else if nI s = 3 then cal (fn_X7_findResource F sh n (jz z na s a k) 3 (ckA s a) (nI (ckM s a k)) (nI (ckS s k))) (fun z_54 r_55 => lnk (z_54.2.2 104 10) (fun k_58 => if (0 : Int32) ≤ r_55 then lnk (z_54.2.2 104 1) (fun k_65 => lnk (z_54.2.2 104 0) (fun k_66 => grd (okO sh n k_65 1) (cal (fn_X1_load F sh n z_54 k_65 k_66 r_55) (fun z_67 r_68 => fn_X2_ask_B236 F sh n k_58 (nI na) 104 r_55 z_67 r_68)))) else fn_X2_ask_B236 F sh n k_58 (nI na) 104 r_55 z_54 0)) else fn_X2_ask_B237 F sh n 104 (nI na) (jz z na s a k) 0) := by
  obtain ⟨f', e⟩ := (cask_L (F := F) hL h hk na 0 F (by omega) (by have := h.2.1; omega)).2 hj
  have ok : ∀ c w, 105 ≤ c → c ≤ 112 → shF c = (w, 24) → okA sh n c w (nI na) = true := fun c w c1 c2 ee => by rw [lay_a hL c w 24 (by omega) ee]; exact okI_nI (by omega) (by omega)
  have cp : (nI na).toNatClampNeg = na := nI_clamp (by omega)
  have l24 : nI na < 24 := (nIlt (x := 24) 24 rfl (by omega) (by omega)).mpr hn
  have lk : ∀ zz : St, zz.2.2 = z.2.2 → ∀ k j t, lkF k j = some t → zz.2.2 k j = some t := fun zz ez k j t q => by rw [ez]; exact hL.2.2 k j t q
  unfold fn_X2_ask
  have e' : fn_X2_ask_L3 F sh n 104 (nI s) (ckA s a) (nI (ckM s a k)) (nI (ckS s k)) F z 0 = fn_X2_ask_L3 F sh n 104 (nI s) (ckA s a) (nI (ckM s a k)) (nI (ckS s k)) (f' + 1) z (nI na) := e
  rw [e']
  conv => lhs; unfold fn_X2_ask_L3
  rw [(b_jour hL).1, grd_true, h.1.1, if_pos ((nI_leI (by omega) (by omega)).mpr (Nat.le_refl _)), if_pos l24, lt_t, nI_1, lt_t, si_3, hL.2.2 104 2 105 rfl, lnk_s, ok 105 101 (by omega) (by omega) rfl, grd_true, cp, lt_t, si_3, si_3, hL.2.2 104 3 106 rfl, lnk_s, ok 106 102 (by omega) (by omega) rfl, grd_true, lt_t, sl_3, si_3, si_3, hL.2.2 104 4 107 rfl, lnk_s, ok 107 101 (by omega) (by omega) rfl, grd_true, lt_t, si_3, sl_3, si_3, si_3, hL.2.2 104 5 108 rfl, lnk_s, ok 108 101 (by omega) (by omega) rfl, grd_true, lt_t, si_3, si_3, sl_3, si_3, si_3, hL.2.2 104 9 111 rfl, lnk_s, ok 111 102 (by omega) (by omega) rfl, grd_true, lt_t, sl_3, si_3, si_3, sl_3, si_3, si_3, hL.2.2 104 10 112 rfl, lnk_s, ok 112 101 (by omega) (by omega) rfl, grd_true, lt_t, si_3, sl_3, si_3, si_3, sl_3, si_3, si_3, hL.2.2 104 0 3 rfl, lnk_s, lnk_s, (b_state hL).1, grd_true, grd_true]
  rfl
/-- a module -/
theorem cask_2 (hF : 300 ≤ F) (hL : Lay sh n z) (h : CJ z na ak cn ws) {a : Int64} (hk : KyOk 2 a 0) (hj : fdK na ak 2 a 0 na 0 = none) (hn : na < 24) : ∃ z', fn_X2_ask F sh n z 104 2 0 (nI (N a)) 0 = some (z', nI na) ∧ CJ z' (na + 1) (upA ak na (2, a, 0, 0, false, 0)) (fun e => if e = na then 0 else cn e) ws ∧ FrJ z z' ∧ ∀ k, k < 104 ∨ 112 < k → z'.1 k = z.1 k ∧ z'.2.1 k = z.2.1 k := by
  have e0 := cask_0 (F := F) hF hL h hk hj hn
  obtain ⟨j1, j2, j3, j4, j5, j6⟩ := jz_o (z := z) (na := na) (s := 2) (k := 0) (a := a)
  have Lz : Lay sh n (jz z na 2 a 0) := hL.of rfl
  rw [if_neg (by decide), if_neg (by decide), jE_t (b := true) Lz hn (by decide)] at e0
  refine ⟨_, e0, jE_new (th := false) h hn hj hk j2 j1 j3 j4 j5 j6 rfl (.inl rfl) (fun q => absurd q (by decide)) (fun q => absurd q (by decide)), jz_fr.trans jE_fr, fun k hk => ?_⟩
  have f := (jz_fr (z := z) (na := na) (s := 2) (k := 0) (a := a)).trans (jE_fr (na := na) (b := true))
  by_cases c : 88 ≤ k ∧ k ≤ 92
  · unfold jE jz
    constructor
    · rw [si_ok (by omega), si_ok (by omega), si_ok (by omega), sl_1, si_ok (by omega), si_ok (by omega), sl_1, si_ok (by omega), si_ok (by omega)]
    · rw [si_2, si_2, si_2, sl_ok (by omega), si_2, si_2, sl_ok (by omega), si_2, si_2]
  · exact f.2 k c (by omega)
/-- an account -/
theorem cask_1 (hF : 300 ≤ F) (hL : Lay sh n z) (h : CJ z na ak cn ws) (hg : CLg z nc ac nr so) {a : Int64} (hj : fdK na ak 1 a 0 na 0 = none) (hn : na < 24) (hw : ws 1 a 0 = acT nc ac a) : ∃ z', fn_X2_ask F sh n z 104 1 a 0 0 = some (z', nI na) ∧ CJ z' (na + 1) (upA ak na (1, a, 0, acB nc ac a, acT nc ac a, 0)) (fun e => if e = na then 0 else cn e) ws ∧ FrJ z z' ∧ ∀ k, k < 104 ∨ 112 < k → z'.1 k = z.1 k ∧ z'.2.1 k = z.2.1 k := by
  have hk : KyOk 1 a 0 := Or.inl ⟨rfl, rfl⟩
  have e0 := cask_0 (F := F) hF hL h hk hj hn
  obtain ⟨j1, j2, j3, j4, j5, j6⟩ := jz_o (z := z) (na := na) (s := 1) (k := 0) (a := a)
  have Lz : Lay sh n (jz z na 1 a 0) := hL.of rfl
  have fz := jz_fr (z := z) (na := na) (s := 1) (k := 0) (a := a)
  have Gz : CLg (jz z na 1 a 0) nc ac nr so := hg.of (fun k k1 k2 => fz.2 k (by omega) (by omega))
  have fa := cfindA_t (F := F) hF Lz Gz (x := a)
  have o11 : okA sh n 111 102 (nI na) = true := by rw [lay_a hL 111 102 24 (by decide) rfl]; exact okI_nI (by omega) (by omega)
  have cp : (nI na).toNatClampNeg = na := nI_clamp (by omega)
  have eA : ckA 1 a = a := rfl
  have key : ∀ (v : Int64) (p : Int32) (b : Bool), (p < 0 ↔ b = false) → fn_X2_ask_B185 F sh n 111 (nI na) 104 p (jz z na 1 a 0) v = some (jE (sl (jz z na 1 a 0) 111 na v) na b, nI na) := fun v p b hb => by
    unfold fn_X2_ask_B185
    have L2 : Lay sh n (sl (jz z na 1 a 0) 111 na v) := Lz.of rfl
    rw [o11, grd_true, cp, lt_t, jE_t L2 hn hb]
  have fin : ∀ (v : Int64) (b : Bool), acT nc ac a = b → CJ (jE (sl (jz z na 1 a 0) 111 na v) na b) (na + 1) (upA ak na (1, a, 0, v, b, 0)) (fun e => if e = na then 0 else cn e) ws ∧ FrJ z (jE (sl (jz z na 1 a 0) 111 na v) na b) ∧ ∀ k, k < 104 ∨ 112 < k → (jE (sl (jz z na 1 a 0) 111 na v) na b).1 k = z.1 k ∧ (jE (sl (jz z na 1 a 0) 111 na v) na b).2.1 k = z.2.1 k := fun v b eb => by
    refine ⟨jE_new (z1 := sl (jz z na 1 a 0) 111 na v) (b := b) (th := b) h hn hj hk (fun i j i1 i2 hj => ⟨(j2 i j i1 i2 hj).1, by rw [sl_oj hj]; exact (j2 i j i1 i2 hj).2⟩) j1 j3 (by rw [sl_ok (by omega)]; exact j4) j5 j6 rfl (.inr (hw.trans eb)) (fun _ => sl_ss) (fun q => absurd q (by decide)), (fz.trans (FrJ.sl (by omega))).trans jE_fr, fun k hk => ?_⟩
    unfold jE jz
    constructor
    · rw [si_ok (by omega), si_ok (by omega), sl_1, si_ok (by omega), sl_1, si_ok (by omega), si_ok (by omega), sl_1, si_ok (by omega), si_ok (by omega)]
    · rw [si_2, si_2, sl_ok (by omega), si_2, sl_ok (by omega), si_2, si_2, sl_ok (by omega), si_2, si_2]
  rw [if_pos (by decide), eA, fa, cal_s, Lz.2.2 104 9 111 rfl, lnk_s] at e0
  cases q : fdA nc ac a with
  | none =>
    have t0 : acT nc ac a = false := by unfold acT; rw [q]; rfl
    have b0 : acB nc ac a = 0 := by unfold acB; rw [q]
    rw [q, if_neg (by decide), key 0 _ false (by decide)] at e0
    obtain ⟨g1, g2, g3⟩ := fin 0 false t0
    rw [t0, b0]
    exact ⟨_, e0, g1, g2, g3⟩
  | some i =>
    have t0 : acT nc ac a = true := by unfold acT; rw [q]; rfl
    have b0 : acB nc ac a = (ac i).2.1 := by unfold acB; rw [q]
    have hi := fd_lt nc 0 i q
    have hnc := hg.1.2.1
    obtain ⟨x1, x2⟩ := oI0 i (by omega)
    have o5 : okA sh n 5 102 (nI i) = true := by rw [lay_a hL 5 102 256 (by decide) rfl]; exact okI_nI (by omega) (by omega)
    rw [q, if_pos x1, Lz.2.2 104 0 3 rfl, lnk_s, (b_state hL).1, grd_true, Lz.2.2 3 1 5 rfl, lnk_s, show oI (some i) = nI i from rfl, o5, grd_true, nI_clamp (by omega), (Gz.1.2.2 i (by omega)).2.1, key _ _ true (by constructor <;> intro y; exact absurd y x2; exact absurd y (by decide))] at e0
    obtain ⟨g1, g2, g3⟩ := fin (ac i).2.1 true t0
    rw [t0, b0]
    exact ⟨_, e0, g1, g2, g3⟩
end
