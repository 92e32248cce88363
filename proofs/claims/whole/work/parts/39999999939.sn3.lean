/-! BOTH MACHINES SIDE BY SIDE: calls (23) -/
section
variable {E : Ev} {F n : Nat} {sh : Nat → Nat × Nat} {pk : Nat → Nat} {kt : Nat} {sl0 : Int32} {lim e : Nat} {zr zc zr' zc' : St} {H : Hp} {m : Nat} {ty : Nat → Nat} {fr : Nat → Fm} {nf na : Nat} {ak : Nat → Ask} {g g' : Nat} {Hc : Hp} {mc : Nat} {phi : Nat → Nat} {Rn : Nat → Option Nat} {cs cl : Nat → Nat → Nat} {cn : Nat → Nat} {ws : Nat → Int64 → Nat → Bool} {U U' : Md} {ls ls' gv : List Ty} {L L' L0 L2 : Lks} {R C : Option (St × Unit)}
variable {SF : Nat → List Nat} {sd : Int64} {nc nr nrc : Nat} {ac acC : Nat → Int64 × Int64 × Int64} {rs : Nat → Int64 × Nat × Hp × Nat} {so : Nat → Option Rsc}
theorem ck2 {md : Nat} (h : md < 65536) : KyOk 2 (lN md) 0 ∧ ckA 2 (lN md) = 0 ∧ ckM 2 (lN md) 0 = md ∧ ckS 2 0 = 0 := by
  have e := N_lN (k := md) (by omega)
  refine ⟨.inr (.inl ⟨rfl, rfl, by rw [e]; exact h⟩), rfl, ?_, rfl⟩
  show N (lN md) = md
  exact e
/-- a function of the same module -/
theorem sim_own (hF : 300 ≤ F) (h : Sm E sh n pk kt sl0 lim 1 zr zc H m ty fr nf na ak g Hc mc phi Rn cs cl cn ws) (fm : FM U ls (fr (nf - 1)) L) (hU : UOk E (fr (nf - 1)).1.1 U) {a md ku fs : Nat} (hc : aCall U ls (fr (nf - 1)).1.2.1 a L = .ok L') (h63 : N63 L) (h8 : (tksOf U a).length ≤ 8) (gT : ∀ t, t ∈ gvsOf U a → STy U.1.2.2 t) (c0 : L0.1.1 = 0) (c1 : ∀ k, k < (locOf U a).length → L0.2.1 k = decide (k < (tksOf U a).length) ∧ (L0.2.1 k = true → isR ((locOf U a).getD k []) = true → L0.2.2.1 k = bitO (40 + k) ∧ L0.2.2.2 k = false)) (hu : zr.2.2 337 48 = some ku) (hok : okO sh n ku 16 = true) (hmany : fn_X16_many F sh n zr ku (nI a) 0 = some (zr, nI (tksOf U a).length)) (h9 : zr.1 ku 9 = nI fs) (ha : a < fs) (hfs : fs < 2 ^ 31) (hmd : md < 65536) (hm : AskM na ak md) (hp : fn_X7_findProgram F sh n zc 3 (nI md) = some (zc, some (pk (fr (nf - 1)).1.1))) (ho : okO sh n (pk (fr (nf - 1)).1.1) 5 = true) (htk : ∀ z', FrC zc z' → fn_X5_takes F sh n z' (pk (fr (nf - 1)).1.1) (nI a) = some (z', nI (tksOf U a).length)) : OutK E sh n pk kt sl0 lim zr zc fr nf na ak g ws U U ls (gvsOf U a) L' L0 (fr (nf - 1)).1.1 a (tksOf U a).length md (fn_X18_enterCall F sh n zr 337 (nI a)) (fn_X4_enter F sh n zc 87 (nI md) (nI a)) := by
  obtain ⟨k1, _⟩ := call_ok hc
  have hh := fm.1
  have n24 := h.2.2.2.1.2.1
  rw [h.2.1.call0 (F := F) hu hok hmany (by omega), call1 h.2.1.1 hu hok h9 ha hfs]
  obtain ⟨y1, y2, y3, y4⟩ := ck2 hmd
  have fk : fdK na ak 2 (lN md) 0 na 0 ≠ none := by
    obtain ⟨j, j1, j2, j3, j4⟩ := hm
    exact fd_ex na 0 j (Nat.zero_le _) (by omega) (by simp [j2, j3, j4])
  cases q : fdK na ak 2 (lN md) 0 na 0 with
  | none => exact absurd q fk
  | some j =>
    have AS := cask_f (F := F) hF h.2.2.1.1 h.2.2.2.1 y1 q
    rw [y2, y3, y4] at AS
    have hj := fd_lt na 0 j q
    exact sim_ent hF h.2.2.1 h fm hU hc h63 h8 (fun w => (hU.2.2.2.2.1 a).symm.trans w) gT rfl (fun _ _ => ⟨rfl, rfl⟩) c0 c1 hp AS (by omega) hm FrX.rfl' ho htk
/-- a function of another module -/
theorem sim_for (hF : 300 ≤ F) (h : Sm E sh n pk kt sl0 lim 1 zr zc H m ty fr nf na ak g Hc mc phi Rn cs cl cn ws) (hE : EvOk E) (hA : EvA E) (rl : RLg zr nc ac nr rs) (cg : CLg zc nc acC nrc so) (lg : LgR E SF sd nc ac acC nr rs so ws) (h0 : 0 < na ∧ (ak 0).1 = 1 ∧ (ak 0).2.1 = sd) (fm : FM U ls (fr (nf - 1)) L) (hU : UOk E (fr (nf - 1)).1.1 U) {a u' f' md ku fs : Nat} (hc : aCall U ls (fr (nf - 1)).1.2.1 a L = .ok L') (h63 : N63 L) (h8 : (tksOf U a).length ≤ 8) (hres : E.2.2.1 u' f' = true → resOf U a = true) (gT : ∀ t, t ∈ gvsOf U a → STy U.1.2.2 t) (tl : (tksOf U' f').length = (tksOf U a).length) (tk : ∀ k, k < (tksOf U a).length → TyS U U' ((tksOf U a).getD k []) ((tksOf U' f').getD k [])) (c0 : L0.1.1 = 0) (c1 : ∀ k, k < (locOf U' f').length → L0.2.1 k = decide (k < (tksOf U' f').length) ∧ (L0.2.1 k = true → isR ((locOf U' f').getD k []) = true → L0.2.2.1 k = bitO (40 + k) ∧ L0.2.2.2 k = false)) (hu : zr.2.2 337 48 = some ku) (hok : okO sh n ku 16 = true) (hmany : fn_X16_many F sh n zr ku (nI a) 0 = some (zr, nI (tksOf U a).length)) (h9 : zr.1 ku 9 = nI fs) (ha : fs ≤ a) (ha2 : a < 2 ^ 31) (hmd : md < 65536) (hmd0 : md ≠ 0) (hfn : fn_X16_foreignNumber F sh n zr ku (nI a) = some (zr, nI f')) (hfm : fn_X16_foreignModule F sh n zr ku (nI a) = some (zr, nI md)) (hfi : ∀ z', FrR zr z' → fn_X18_findModule F sh n z' 337 (nI md) = some (z', nI u')) (hp : fn_X7_findProgram F sh n zc 3 (nI md) = some (zc, some (pk u'))) (ho : okO sh n (pk u') 5 = true) (htk : ∀ z', FrX zc z' → fn_X5_takes F sh n z' (pk u') (nI f') = some (z', nI (tksOf U a).length)) : OutK E sh n pk kt sl0 lim zr zc fr nf na ak g ws U U' ls (gvsOf U a) L' L0 u' f' (tksOf U a).length md (fn_X18_enterCall F sh n zr 337 (nI a)) (fn_X4_enter F sh n zc 87 (nI md) (nI f')) := by
  obtain ⟨k1, _⟩ := call_ok hc
  have hh := fm.1
  have n32 := h.2.2.1.2.2.1.2.2.1
  rw [h.2.1.call0 (F := F) hu hok hmany (by omega), (call2 h.2.1.1 (c := (tksOf U a).length) (u := (fr (nf - 1)).1.1) hu hok h9 ha ha2 hfn hfm (by omega)).2 hmd0]
  obtain ⟨y1, y2, y3, y4⟩ := ck2 hmd
  have AS := h.ask (F := F) hF hE hA rl cg lg h0 y1
  rw [y2, y3, y4] at AS
  have i0 : nI 0 = 0 := rfl
  have i2 : nI 2 = 2 := rfl
  rw [i0, i2] at AS
  rw [nI_l (by omega)]
  rcases AS with ⟨zr2, q1, q2, q3, q4⟩ | ⟨zr2, zc2, j, H', m', ty', na', ak', Hc', mc', phi', cn', q1, q2, S2, q4, q5, q6, q7, q8, q9, q10, q11, q12, q13⟩
  · have e1 : cal (fn_X18_ask F sh n zr 337 2 (lN md) 0) (fun z_40 r_41 => if (0 : Int32) ≤ r_41 then cal (fn_X18_findModule F sh n z_40 337 (nI md)) (fun z_44 r_45 => fn_X18_enterCall_B111 F sh n 337 (nI (tksOf U a).length) z_44 r_45 (nI f')) else some (z_40, ())) = some (zr2, ()) := by
      rw [q1, cal_s, if_neg (by decide)]
    by_cases c32 : nf = 32
    · obtain ⟨z2, d1, d2, d3⟩ := h.2.2.1.entE1 (F := F) (f := nI f') hp c32
      exact ⟨zr2, z2, e1, d1, q4, d3.x, .inl ⟨2, 4, g, .inr rfl, q3, d2⟩⟩
    · obtain ⟨z2, d1, d2, d3⟩ := h.2.2.1.entE2 (F := F) (f := nI f') h.2.2.1 hp (by omega) q2 (by decide)
      exact ⟨zr2, z2, e1, d1, q4, d3.x, .inl ⟨2, 4, g, .inr rfl, q3, d2⟩⟩
  · have n24 := S2.2.2.2.1.2.1
    have j0 : (0 : Int32) ≤ nI j := (nIge (x := 0) 0 rfl (by omega) (by omega)).mpr (Nat.zero_le _)
    rw [q1, cal_s, if_pos j0, hfi zr2 q4, cal_s]
    have hm : AskM na' ak' md := ⟨j, q6, q7, q8, q9⟩
    exact OutK.late ⟨q10, Nat.le_refl _, fun i hi => by rw [q11 i hi]; exact ⟨rfl, rfl, rfl⟩⟩ q4 FrX.rfl' (sim_ent hF h.2.2.1 S2 fm hU hc h63 h8 hres gT tl tk c0 c1 hp q2 (by omega) hm q5.x ho (fun z' f => htk z' (q5.x.trans f.x)))
end
