/-! MISFITS, THE REFERENCE: foreign functions, fields -/
theorem bit1R : ∀ x, x < 8 → ((nI x &&& 1 : Int32) = 1 ↔ x % 2 = 1) := by decide
theorem bit4R : ∀ x, x < 8 → ∀ y, y < 8 → ((nI x &&& 4 : Int32) = (nI y &&& 4 : Int32) ↔ x / 4 % 2 = y / 4 % 2) := by decide
section
variable {F n : Nat} {sh : Nat → Nat × Nat} {z z' : St} {ku len : Nat} {b : Nat → Nat} {M : MP} {ws : Nat → Md} {wc : Nat} {dp : Nat → Nat → Nat}
theorem RWo.pic (h : RWo sh n z ws wc dp) (hN : WNo ws wc) {i : Nat} (hi : i ≤ wc) : ∃ b len M, ws i = mdOf b M ∧ PicOk b len M ∧ jM b M = none ∧ 6 ≤ len ∧ ∀ q, q < len → b q < 256 := by
  by_cases c : i = 0
  · subst c
    exact ⟨bC, 81, M0, hN.1, (pAll_p coin_all).1, coin_j, by omega, fun q _ => bOf_lt _⟩
  · obtain ⟨⟨b, len, M, c1, c2, c3, c4, _⟩, _⟩ := h.2.2.2 i (by omega) hi
    exact ⟨b, len, M, c2, c1.2.2, c3, c4, fun q hq => (c1.1.2.2.2.2 q hq).2⟩
theorem RWo.funAs (hF : 300 ≤ F) (h : RWo sh n z ws wc dp) (hN : WNo ws wc) (hu : UM sh n z ku b len M) (h6 : 6 ≤ len) (hj : jM b M = none) {k : Nat} (hk : k < M.2.2.1.length) : fn_X18_isFunctionAs F sh n z 337 ku (nI (M.2.2.2.2.length + k)) = some (z, bI (fnOk ws wc (mdOf b M) (M.2.2.2.2.length + k))) := by
  have pk := hu.2.2
  have hb : ∀ q, q < len → b q < 256 := fun q hq => (hu.1.2.2.2.2 q hq).2
  have ha : M.2.2.2.2.length + k < M.2.2.2.2.length + M.2.2.1.length := by omega
  have md := mdO_of hb pk hj
  obtain ⟨fo1, fo2⟩ := hu.foreign (F := F) (f := M.2.2.2.2.length + k) (by omega) ha
  have wl := whoL pk hb hk
  have fl := (md.2.2.2.2 (M.2.2.2.2.length + k) ha).1
  have unl := hu.unL (F := F) hF
  obtain ⟨⟨um0, um1, _⟩, ul0, ul1⟩ := unl.2.1 (M.2.2.2.2.length + k) ha
  have so : fnOk ws wc (mdOf b M) (M.2.2.2.2.length + k) = match wfi ws (whoOf (mdOf b M) (M.2.2.2.2.length + k) / 256) (wc + 1) 0 with
    | none => false
    | some i => decide (whoOf (mdOf b M) (M.2.2.2.2.length + k) % 256 < fsOf (ws i)) && (decide ((fnOf (ws i) (whoOf (mdOf b M) (M.2.2.2.2.length + k) % 256)).1 % 2 = 1) && (decide ((fnOf (ws i) (whoOf (mdOf b M) (M.2.2.2.2.length + k) % 256)).1 / 4 % 2 = (fnOf (mdOf b M) (M.2.2.2.2.length + k)).1 / 4 % 2) && sameLs (mdOf b M) (M.2.2.2.2.length + k) (ws i) (whoOf (mdOf b M) (M.2.2.2.2.length + k) % 256))) := rfl
  have g8 : whoOf (mdOf b M) (M.2.2.2.2.length + k) % 256 < 256 := by omega
  have it := (h.isT (F := F) hF hN wl g8).2
  unfold fn_X18_isFunctionAs
  rw [hu.1.o, grd_true, fo2, cal_s, fo1, cal_s, (b_model h.1).1, grd_true]
  cases e : wfi ws (whoOf (mdOf b M) (M.2.2.2.2.length + k) / 256) (wc + 1) 0 with
  | none =>
    rw [e] at so it
    have it' : fn_X18_isThere F sh n z 337 (nI (whoOf (mdOf b M) (M.2.2.2.2.length + k) / 256)) (nI (whoOf (mdOf b M) (M.2.2.2.2.length + k) % 256)) 0 = some (z, 0) := it
    have so' : fnOk ws wc (mdOf b M) (M.2.2.2.2.length + k) = false := so
    rw [it', cal_s, if_pos rfl, so']; rfl
  | some i =>
    rw [e] at so it
    obtain ⟨_, w2, w3⟩ := wfi_s e
    obtain ⟨b', len', M', c2, pk', c3, c4, hb'⟩ := h.pic hN (i := i) (by omega)
    have md' := mdO_of hb' pk' c3
    obtain ⟨th1, th2, th3⟩ := h.there (F := F) hF hN wl e
    have it' : fn_X18_isThere F sh n z 337 (nI (whoOf (mdOf b M) (M.2.2.2.2.length + k) / 256)) (nI (whoOf (mdOf b M) (M.2.2.2.2.length + k) % 256)) 0 = some (z, bI (decide (whoOf (mdOf b M) (M.2.2.2.2.length + k) % 256 < fsOf (ws i)))) := it
    have so2 : fnOk ws wc (mdOf b M) (M.2.2.2.2.length + k) = (decide (whoOf (mdOf b M) (M.2.2.2.2.length + k) % 256 < fsOf (ws i)) && (decide ((fnOf (ws i) (whoOf (mdOf b M) (M.2.2.2.2.length + k) % 256)).1 % 2 = 1) && (decide ((fnOf (ws i) (whoOf (mdOf b M) (M.2.2.2.2.length + k) % 256)).1 / 4 % 2 = (fnOf (mdOf b M) (M.2.2.2.2.length + k)).1 / 4 % 2) && sameLs (mdOf b M) (M.2.2.2.2.length + k) (ws i) (whoOf (mdOf b M) (M.2.2.2.2.length + k) % 256)))) := so
    generalize hw : whoOf (mdOf b M) (M.2.2.2.2.length + k) % 256 = f at *
    by_cases d : f < fsOf (ws i)
    · obtain ⟨q1, ⟨q2, q3⟩, q4, q5⟩ := th3 f d
      have hf : f < faOf (ws i) := by rw [c2] at d ⊢; have d' : f < M'.2.2.2.2.length := d; show f < M'.2.2.2.2.length + M'.2.2.1.length; omega
      rw [← c2] at md'
      obtain ⟨fl', lt', lg', ty', tg'⟩ := md'.2.2.2.2 f hf
      obtain ⟨_, lt, lg, tyy, tgg⟩ := md.2.2.2.2 (M.2.2.2.2.length + k) ha
      have idb : ∀ s, s < (ws i).1.2.2 → (ws i).2.2.2.1 s / 256 < 65536 := fun s hs => by rw [c2] at hs ⊢; exact id_lt pk' hb' c4 hs
      rw [decide_eq_true d] at it' so2
      rw [Bool.true_and, sameLs_e] at so2
      have L0 := RWo.list (F := F) hF h hu (l := 0) (T := tySb (mdOf b M) (ws i)) um0 q2 (by omega) (by omega) ul0 q4 (fun x hx hx' => h.same hF hN hu h6 wl e (tyy _ (getD_m hx)).1 (ty' _ (getD_m hx')).1 idb)
      have L1 := RWo.list (F := F) hF h hu (l := 1) (T := tySb (mdOf b M) (ws i)) um1 q3 (by omega) (by omega) ul1 q5 (fun x hx hx' => h.same hF hN hu h6 wl e (tgg _ (getD_m hx)).1 (tg' _ (getD_m hx')).1 idb)
      have L0' : fn_X18_isSameList F sh n z 337 ku (nI (M.2.2.2.2.length + k)) (nI (whoOf (mdOf b M) (M.2.2.2.2.length + k) / 256)) (nI f) 0 = some (z, bI (lsB (mdOf b M) (ws i) (tksOf (mdOf b M) (M.2.2.2.2.length + k)) (tksOf (ws i) f))) := L0
      have L1' : fn_X18_isSameList F sh n z 337 ku (nI (M.2.2.2.2.length + k)) (nI (whoOf (mdOf b M) (M.2.2.2.2.length + k) / 256)) (nI f) 1 = some (z, bI (lsB (mdOf b M) (ws i) (gvsOf (mdOf b M) (M.2.2.2.2.length + k)) (gvsOf (ws i) f))) := L1
      rw [it', cal_s, if_neg (show ¬ bI true = 0 by decide), q1, cal_s]
      by_cases d1 : (fnOf (ws i) f).1 % 2 = 1
      · rw [decide_eq_true d1, Bool.true_and] at so2
        rw [if_pos ((bit1R _ fl').mpr d1), hu.flags ha, cal_s]
        by_cases d4 : (fnOf (ws i) f).1 / 4 % 2 = (fnOf (mdOf b M) (M.2.2.2.2.length + k)).1 / 4 % 2
        · rw [decide_eq_true d4, Bool.true_and] at so2
          rw [if_pos ((bit4R _ fl' _ fl).mpr d4), L0', cal_s, so2]
          cases e0 : lsB (mdOf b M) (ws i) (tksOf (mdOf b M) (M.2.2.2.2.length + k)) (tksOf (ws i) f) with
          | false => rw [if_pos (show bI false = 0 from rfl), Bool.false_and]; rfl
          | true =>
            rw [if_neg (show ¬ bI true = 0 by decide), L1', cal_s, Bool.true_and]
            cases e1 : lsB (mdOf b M) (ws i) (gvsOf (mdOf b M) (M.2.2.2.2.length + k)) (gvsOf (ws i) f) with
            | false => rw [if_pos (show bI false = 0 from rfl)]; rfl
            | true => rw [if_neg (show ¬ bI true = 0 by decide)]; rfl
        · rw [decide_eq_false d4, Bool.false_and] at so2
          rw [if_neg (fun y => d4 ((bit4R _ fl' _ fl).mp y)), so2]; rfl
      · rw [decide_eq_false d1, Bool.false_and] at so2
        rw [if_neg (fun y => d1 ((bit1R _ fl').mp y)), so2]; rfl
    · rw [decide_eq_false d] at it' so2
      rw [Bool.false_and] at so2
      rw [it', cal_s, if_pos (show bI false = 0 from rfl), so2]; rfl
theorem RWo.l171 (hF : 300 ≤ F) (h : RWo sh n z ws wc dp) (hN : WNo ws wc) (hu : UM sh n z ku b len M) (h6 : 6 ≤ len) (hj : jM b M = none) (x3 : Int32) : ∀ r k g, k + r = M.2.2.1.length → r < g → fn_X18_takeModule_L171 F sh n ku 337 x3 g z (nI (M.2.2.2.2.length + k)) = tlR z 23 0 (fn_X18_takeModule_L216 F sh n ku 337 x3 F z 0) (fbad (fun k => fnOk ws wc (mdOf b M) (M.2.2.2.2.length + k)) r k) := by
  have pk := hu.2.2
  have l1 := pk.2.2.1.1
  have l2 := pk.2.2.2.2.1
  have o16 := hu.1.o
  have o18 := (b_model h.1).1
  intro r
  induction r with
  | zero =>
    intro k g ek hg
    obtain ⟨g, rfl⟩ : ∃ q, g = q + 1 := ⟨g - 1, by omega⟩
    unfold fn_X18_takeModule_L171 fn_X16_functionCount
    rw [o16, grd_true, hu.2.1.2.2.2.2.2.2.2.2.1, hu.2.1.2.2.2.2.1, nI_add, cal_s, if_pos ((nI_leI (by omega) (by omega)).mpr (by omega))]
    rfl
  | succ r ih =>
    intro k g ek hg
    obtain ⟨g, rfl⟩ : ∃ q, g = q + 1 := ⟨g - 1, by omega⟩
    have fa := h.funAs (F := F) hF hN hu h6 hj (k := k) (by omega)
    unfold fn_X18_takeModule_L171 fn_X16_functionCount fn_X18_tell fbad
    rw [o16, grd_true, hu.2.1.2.2.2.2.2.2.2.2.1, hu.2.1.2.2.2.2.1, nI_add, cal_s, if_neg (fun y => by have := (nI_leI (by omega) (by omega)).mp y; omega), fa, cal_s]
    cases e : fnOk ws wc (mdOf b M) (M.2.2.2.2.length + k) with
    | false =>
      rw [if_pos (show bI false = 0 from rfl), o18, grd_true, lt_t, cal_s, hu.2.1.2.2.2.2.2.2.2.2.1, pk_sub (by omega), Nat.add_sub_cancel_left, if_neg (by simp)]
      rfl
    | true =>
      rw [if_neg (show ¬ bI true = 0 by decide), if_pos rfl, nI_1, Nat.add_assoc]
      exact ih (k + 1) g (by omega) (by omega)
theorem UM.l216 (hF : 300 ≤ F) (hj : jM b M = none) (x3 : Int32) : ∀ r s g z, UM sh n z ku b len M → s + r = M.1.length → r < g → ∃ z', fn_X18_takeModule_L216 F sh n ku 337 x3 g z (nI s) = tlR z' 24 0 (cal (fn_X18_measure F sh n z' 337 x3) (fun z_48 _ => fn_X18_takeModule_L264 F sh n ku 337 x3 F z_48 0)) (fbad (wkOk (mdOf b M)) r s) ∧ FrLm z z' := by
  intro r
  induction r with
  | zero =>
    intro s g z hu es hg
    obtain ⟨g, rfl⟩ : ∃ q, g = q + 1 := ⟨g - 1, by omega⟩
    have l1 := hu.2.2.1.1
    unfold fn_X18_takeModule_L216
    rw [hu.2.1.1, if_pos ((nI_leI (by omega) (by omega)).mpr (by omega))]
    exact ⟨z, rfl, FrLm.rfl'⟩
  | succ r ih =>
    intro s g z hu es hg
    obtain ⟨g, rfl⟩ : ∃ q, g = q + 1 := ⟨g - 1, by omega⟩
    have l1 := hu.2.2.1.1
    have m16 := hu.1.1.2.2 337 16 355 rfl
    have o13 : okO sh n 355 13 = true := lay_o hu.1.1 355 13 0 (by decide) rfl
    obtain ⟨z1, q1, q2⟩ := hu.bears (F := F) hF hj (s := s) (by omega)
    have L1 := q2.lay hu.1.1
    unfold fn_X18_takeModule_L216 fn_X18_tell fbad
    rw [hu.2.1.1, if_neg (fun y => by have := (nI_leI (by omega) (by omega)).mp y; omega), m16, lnk_s, o13, grd_true, q1, cal_s]
    cases e : wkOk (mdOf b M) s with
    | false =>
      rw [if_pos (show bI false = 0 from rfl), (b_model L1).1, grd_true, lt_t, cal_s, if_neg (by simp)]
      exact ⟨z1, rfl, q2⟩
    | true =>
      rw [if_neg (show ¬ bI true = 0 by decide), if_pos rfl, nI_1]
      obtain ⟨z2, s1, s2⟩ := ih (s + 1) g z1 (hu.fm q2) (by omega) (by omega)
      exact ⟨z2, s1, q2.trans s2⟩
end
