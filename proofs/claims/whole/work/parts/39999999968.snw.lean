/-! A CALL'S END: too much on both sides, or on neither -/
theorem szM_d {H : Hp} : ∀ d d' v, Tr H d v → d ≤ d' → szM H d' v = szM H d v := by
  intro d
  induction d with
  | zero => intro d' v t; exact absurd t (by simp [Tr])
  | succ d ih =>
    intro d' v t h
    obtain ⟨e, rfl⟩ : ∃ e, d' = e + 1 := ⟨d' - 1, by omega⟩
    unfold szM
    rw [List.map_congr_left (fun c hc => ih e c (t.2.2 c hc) (by omega))]
theorem cfT_f {ak : Nat → Ask} {sz : Nat → Nat} : ∀ r p, cfT ak sz r p = false → ∀ j, p ≤ j → j < p + r → (ak j).1 = 3 → (ak j).2.2.2.2.1 = true → sz j ≤ 64
  | 0, p, _, j, a, b => by omega
  | r + 1, p, h, j, a, b => fun h3 ht => by
    have e : cfT ak sz (r + 1) p = ((decide ((ak p).1 = 3) && ((ak p).2.2.2.2.1 && decide (64 < sz p))) || cfT ak sz r (p + 1)) := rfl
    rw [e, Bool.or_eq_false_iff] at h
    by_cases c : j = p
    · subst c
      have h1 := h.1
      rw [decide_eq_true h3, ht, Bool.true_and, Bool.true_and, decide_eq_false_iff_not] at h1
      omega
    · exact cfT_f r (p + 1) h.2 j (by omega) (by omega) h3 ht
section
variable {E : Ev} {F n : Nat} {sh : Nat → Nat × Nat} {H : Hp} {m : Nat} {ty phi : Nat → Nat} {Rn : Nat → Option Nat} {Hc : Hp} {mc : Nat} {sl0 : Int32} {na : Nat} {ak : Nat → Ask} {cn : Nat → Nat} {ws : Nat → Int64 → Nat → Bool} {zr zc : St} {nc nr md : Nat} {ac acC : Nat → Int64 × Int64 × Int64} {rs : Nat → Int64 × Nat × Hp × Nat} {so : Nat → Option Rsc} {fr : Nat → Fm} {nf : Nat}
theorem tm_both (hF : 300 ≤ F) (hE : EvOk E) (hA : EvA E) (I : MJ E H m ty fr nf na ak (fun _ => none)) (hN : NoA ty H) (rc : RC H ty phi Rn Hc) (hLr : Lay sh n zr) (hLc : Lay sh n zc) (ra : RAs zr na ak) (hM : HM zr H m) (cj : CJ zc na ak cn ws) (hH : HC zc Hc mc sl0) (an : ∀ j, j < na → (ak j).1 = 3 → (ak j).2.2.2.2.1 = true → cn j = phi (ak j).2.2.2.2.2) (rl : RLg zr nc ac nr rs) (cg : CLg zc nc acC nr so) (hw : ∀ x : Ask, ws x.1 x.2.1 x.2.2.1 = wasT nc ac nr rs x) (m5 : zr.1 337 5 = nI md) (c5 : zc.1 3 5 = nI md) (hpl : nc + md + nr ≤ 256) (hm : m < 2 ^ 20) : ∃ T : Bool, fn_X18_isTooMuch F sh n zr 337 = some (zr, bI T) ∧ fn_X2_fits F sh n zc 104 = some (zc, bI (!T)) ∧ (T = false → (∀ p, p < na → (ak p).1 = 3 → (ak p).2.2.2.2.1 = true → szM H 48 (ak p).2.2.2.2.2 ≤ 64) ∧ nc + md + nr + nwC ak ws na 0 ≤ 256 + nrC ak ws na 0) := by
  have ht := I.2.1
  have pu : PU H := I.1.1.1
  have res : ∀ p, p < na → (ak p).1 = 3 → (ak p).2.2.2.2.1 = true → (H (ak p).2.2.2.2.2).1 ≠ 0 ∧ ty (ak p).2.2.2.2.2 = 256 + (ak p).2.2.1 := I.2.2.2.2.1
  have akb : AkB na ak := fun j hj => by
    have k := (cj.2.2 j hj).1
    have := k.b
    rcases k with ⟨a, b⟩ | ⟨a, b, _⟩ | ⟨a, b⟩ <;> omega
  have tr : ∀ p, p < na → (ak p).1 = 3 → (ak p).2.2.2.2.1 = true → Tr H 39 (ak p).2.2.2.2.2 ∧ Tr H 48 (ak p).2.2.2.2.2 ∧ szM H 48 (ak p).2.2.2.2.2 < 2 ^ 20 := fun p hp h3 ht' => by
    obtain ⟨a1, a2⟩ := res p hp h3 ht'
    have := (ht.2 _ a1).2.2.2.2
    have := szM_le hE ht pu (d := 48) a1
    exact ⟨ht.tr hE 39 _ a1 (by omega), ht.tr hE 48 _ a1 (by omega), by omega⟩
  have akw := cj.akw
  have n24 := cj.2.1
  have tm := tooMuch_t (F := F) hF hLr ra rl hM m5 akb (fun p hp h3 ht' => ⟨(tr p hp h3 ht').2.1, by have := (tr p hp h3 ht').2.2; omega⟩)
  rw [tmF_t (sz := fun p => szM H 48 (ak p).2.2.2.2.2) akw hw (fun _ _ _ _ => rfl) na 0 0 false (by omega)] at tm
  have ft := fits_L (F := F) (sz := fun p => szM H 48 (ak p).2.2.2.2.2) hLc cj (fun e he h3 ht' => by
    obtain ⟨a1, a2⟩ := res e he h3 ht'
    obtain ⟨t1, t2, t3⟩ := tr e he h3 ht'
    obtain ⟨b1, b2⟩ := rc.tr hA hN ht 39 _ t1 (by omega)
    rw [an e he h3 ht']
    have sq := szB_q (H := Hc) 39 (phi (ak e).2.2.2.2.2)
    have sb := szB_b (H := Hc) 39 (phi (ak e).2.2.2.2.2)
    have e1 := szM_d 39 48 _ t1 (by omega)
    refine ⟨_, sizeOf_t hF hLc hH b1 (by omega), by omega, ?_⟩
    show szB Hc 39 (phi (ak e).2.2.2.2.2) ≤ 64 ↔ szM H 48 (ak e).2.2.2.2.2 ≤ 64
    rw [b2] at sq
    unfold Szq at sq
    omega) na 0 F (nI (nc + md + nr)) (by omega) (by omega)
  rw [cfC_t akw na 0 _ (by omega)] at ft
  obtain ⟨w1, w2⟩ := nwC_le (ak := ak) (ws := ws) na 0
  generalize nwC ak ws na 0 = nw at *
  generalize nrC ak ws na 0 = nk at *
  have eA : nI (nc + md + nr) + (nI nw - nI nk) = nI (nc + md + nr + nw) - nI nk := by
    rw [← nI_add (nc + md + nr) nw, Int32.sub_eq_add_neg, Int32.sub_eq_add_neg, Int32.add_assoc]
  have le := i32_le (a := nc + md + nr + nw) (b := nk) (by omega) (by omega)
  have ef : fn_X2_fits F sh n zc 104 = fn_X2_fits_L10 F sh n 104 F zc (nI (nc + md + nr)) 0 := by
    unfold fn_X2_fits
    rw [(b_jour hLc).1, grd_true, hLc.2.2 104 0 3 rfl, lnk_s, (b_state hLc).1, grd_true]
    unfold fn_X7_placeCount
    rw [(b_state hLc).1, grd_true, cal_s, cg.1.1, c5, cg.2.1, nI_add, nI_add]
  rw [eA] at ft
  unfold tmE at tm
  simp only [Bool.false_or, Int32.zero_add] at tm
  rw [eA] at tm
  have ft' : fn_X2_fits F sh n zc 104 = some (zc, if cfT ak (fun p => szM H 48 (ak p).2.2.2.2.2) na 0 = true then 0 else if (256 : Int32) < nI (nc + md + nr + nw) - nI nk then 0 else 1) := ef.trans ft
  cases q : cfT ak (fun p => szM H 48 (ak p).2.2.2.2.2) na 0 with
  | true =>
    rw [q] at tm ft'
    exact ⟨true, tm, ft', fun x => absurd x (by simp)⟩
  | false =>
    rw [q] at tm ft'
    by_cases c : nc + md + nr + nw ≤ 256 + nk
    · rw [if_neg (by simp), if_pos (le.mpr c)] at tm
      rw [if_neg (by simp), if_neg (fun x => absurd (le.mpr c) (Int32.not_le.mpr x))] at ft'
      exact ⟨false, tm, ft', fun _ => ⟨fun p hp h3 ht' => cfT_f na 0 q p (by omega) (by omega) h3 ht', c⟩⟩
    · rw [if_neg (by simp), if_neg (fun x => c (le.mp x))] at tm
      rw [if_neg (by simp), if_pos (Int32.not_le.mp (fun x => c (le.mp x)))] at ft'
      exact ⟨true, tm, ft', fun x => absurd x (by simp)⟩
end
