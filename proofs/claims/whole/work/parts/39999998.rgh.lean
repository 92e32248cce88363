/-! THE REFERENCE'S MACHINE: calls, an instruction is fetched -/
section
variable {F n : Nat} {sh : Nat → Nat × Nat} {z z1 z' : St} {H : Hp} {m : Nat} {fr : Nat → Fm} {nf na : Nat} {ak : Nat → Ask} {g lim : Nat}
theorem RE.goes {o : Nat} {c : Int64} (h : RE sh n z o c g) (ho : o < 2 ^ 31) : fn_X18_goesOn F sh n z 337 = some (z, 0) := by
  unfold fn_X18_goesOn
  simp only [b_model h.1, grd_true, h.2.1]
  rw [if_pos ((nIge (x := 0) 0 rfl ho (by omega)).mpr (Nat.zero_le _))]
theorem RE.spend {o : Nat} {c : Int64} (h : RE sh n z o c g) (ho : o < 2 ^ 31) {x : Int32} : fn_X18_spend F sh n z 337 x = some (z, 0) := by
  unfold fn_X18_spend
  rw [(b_model h.1).1, grd_true, h.goes ho, cal_s, if_pos rfl]
/-- the call's last part -/
theorem RM.callE (h : RM sh n z H m fr nf na ak g lim) (hn : nf = 32) {c u f : Int32} : ∃ z', fn_X18_enterCall_B111 F sh n 337 c z u f = some (z', ()) ∧ RE sh n z' 2 4 g ∧ FrR z z' := by
  obtain ⟨z1, p1, p2, p3⟩ := h.fin (F := F) 2 4
  refine ⟨z1, ?_, p2, p3⟩
  unfold fn_X18_enterCall_B111
  rw [h.2.2.2.1.1, if_pos (by rw [hn]; rfl), show (2 : Int32) = nI 2 from rfl, p1, cal_s]
  unfold fn_X18_enterCall_B128
  rw [p2.spend (by omega), cal_s, if_pos rfl]
theorem RM.callG (h : RM sh n z H m fr nf na ak g lim) (hn : nf < 32) (hg : lim < g + 5) {c u f : Int32} : ∃ z', fn_X18_enterCall_B111 F sh n 337 c z u f = some (z', ()) ∧ RE sh n z' 2 5 lim ∧ FrR z z' := by
  obtain ⟨z1, p1, p2, p3⟩ := h.spendE (F := F) hg (by omega)
  refine ⟨z1, ?_, p2, p3⟩
  have n32 : ¬ nI nf = 32 := fun q => by have := (nI_ij (a := nf) (b := 32) (by omega) (by omega)).mp q; omega
  unfold fn_X18_enterCall_B111
  rw [h.2.2.2.1.1, if_neg n32]
  unfold fn_X18_enterCall_B128
  rw [show (5 : Int32) = nI 5 from rfl, p1, cal_s, if_pos rfl]
theorem RM.callN (hF : 300 ≤ F) (h : RM sh n z H m fr nf na ak g lim) (hn : nf < 32) (hg : g + 5 ≤ lim) {u f c nx : Nat} (hc : c ≤ (fr (nf - 1)).2.2.1.1) (hc8 : c ≤ 40) (hnx : (fr (nf - 1)).1.2.2 = nx) (gh : Nat → Option Sl) (ps : Nat → Sl) (hp : ∀ k, k < c → (ps k).1 = ((fr (nf - 1)).2.2.1.2 ((fr (nf - 1)).2.2.1.1 - c + k)).1 ∧ (ps k).2.1 = ((fr (nf - 1)).2.2.1.2 ((fr (nf - 1)).2.2.1.1 - c + k)).2.1) : ∃ z', fn_X18_enterCall_B111 F sh n 337 (nI c) z (nI u) (nI f) = some (z', ()) ∧ RM sh n z' H m (setF (setF fr (nf - 1) (((fr (nf - 1)).1.1, (fr (nf - 1)).1.2.1, nx), (fr (nf - 1)).2.1, ((fr (nf - 1)).2.2.1.1 - c, (fr (nf - 1)).2.2.1.2), gh)) nf ((u, f, 0), (fun k => if k < c then some (ps k) else none), (0, fun _ => (0, 0, 0, 0, false)), fun _ => none)) (nf + 1) na ak (g + 5) lim ∧ FrR z z' := by
  obtain ⟨z1, p1, p2, p3⟩ := h.spend (F := F) hg
  obtain ⟨z2, q1, q2, q3⟩ := p2.enter (F := F) hF hn (u := u) (f := f) hc hc8 hnx gh ps hp
  refine ⟨z2, ?_, q2, p3.trans q3⟩
  have n32 : ¬ nI nf = 32 := fun q => by have := (nI_ij (a := nf) (b := 32) (by omega) (by omega)).mp q; omega
  unfold fn_X18_enterCall_B111
  rw [h.2.2.2.1.1, if_neg n32]
  unfold fn_X18_enterCall_B128
  rw [show (5 : Int32) = nI 5 from rfl, p1, cal_s, if_neg one0, q1, cal_s]
/-- the call's first part -/
theorem RM.call0 (h : RM sh n z H m fr nf na ak g lim) {ku a c : Nat} (hu : z.2.2 337 48 = some ku) (ho : okO sh n ku 16 = true) (hp : fn_X16_many F sh n z ku (nI a) 0 = some (z, nI c)) (hc : c ≤ (fr (nf - 1)).2.2.1.1) : fn_X18_enterCall F sh n z 337 (nI a) = fn_X18_enterCall_B50 F sh n 337 (nI a) (nI c) (nI (fr (nf - 1)).1.1) z := by
  obtain ⟨i1, i2, i3⟩ := h.i0
  obtain ⟨hL, hr, hM, hf, ha, g1, g2, g3, g4⟩ := h
  obtain ⟨t1, t2, t3⟩ := hf.top
  obtain ⟨a1, a2, a3, a4, a5, a6, a7⟩ := t1
  have e2 : nI (bsm fr nf) - nI (bsm fr (nf - 1)) = nI (fr (nf - 1)).2.2.1.1 := by rw [pk_sub (by omega)]; congr 1; omega
  unfold fn_X18_enterCall
  simp only [b_model hL, grd_true, hu, lnk_s, hf.1, i1, i2, i3, ho, a2, lt_t, hp, cal_s, hf.2.2.2.1, a5, e2, if_pos ((nI_leI (show c < 2 ^ 31 by omega) (show (fr (nf - 1)).2.2.1.1 < 2 ^ 31 by omega)).mpr hc)]
/-- a function of the same module -/
theorem call1 (hL : Lay sh n z) {ku a c u fs : Nat} (hu : z.2.2 337 48 = some ku) (ho : okO sh n ku 16 = true) (h9 : z.1 ku 9 = nI fs) (ha : a < fs) (hfs : fs < 2 ^ 31) : fn_X18_enterCall_B50 F sh n 337 (nI a) (nI c) (nI u) z = fn_X18_enterCall_B111 F sh n 337 (nI c) z (nI u) (nI a) := by
  unfold fn_X18_enterCall_B50
  rw [hu, lnk_s, ho, grd_true, h9, if_pos (by rw [Int32.lt_iff_le_and_ne]; exact ⟨(nI_leI (by omega) hfs).mpr (by omega), fun q => by have := (nI_ij (by omega) hfs).mp q; omega⟩)]
/-- a function of another -/
theorem call2 (hL : Lay sh n z) {ku a c u fs k md : Nat} (hu : z.2.2 337 48 = some ku) (ho : okO sh n ku 16 = true) (h9 : z.1 ku 9 = nI fs) (ha : fs ≤ a) (ha2 : a < 2 ^ 31) (h1 : fn_X16_foreignNumber F sh n z ku (nI a) = some (z, nI k)) (h2 : fn_X16_foreignModule F sh n z ku (nI a) = some (z, nI md)) (hmd : md < 2 ^ 31) : (md = 0 → fn_X18_enterCall_B50 F sh n 337 (nI a) (nI c) (nI u) z = fn_X18_coin F sh n z 337 (nI k)) ∧ (md ≠ 0 → fn_X18_enterCall_B50 F sh n 337 (nI a) (nI c) (nI u) z = cal (fn_X18_ask F sh n z 337 2 ((nI md).toInt64) 0) (fun z_40 r_41 => if (0 : Int32) ≤ r_41 then cal (fn_X18_findModule F sh n z_40 337 (nI md)) (fun z_44 r_45 => fn_X18_enterCall_B111 F sh n 337 (nI c) z_44 r_45 (nI k)) else some (z_40, ()))) := by
  have nlt : ¬ nI a < nI fs := by rw [Int32.not_lt]; exact (nI_leI (by omega) ha2).mpr ha
  constructor
  · intro e
    unfold fn_X18_enterCall_B50
    rw [hu, lnk_s, ho, grd_true, h9, if_neg nlt, lnk_s, ho, grd_true, h1, cal_s, hu, lnk_s, ho, grd_true, h2, cal_s, if_pos (by rw [e]; rfl)]
    cases fn_X18_coin F sh n z 337 (nI k) with
    | none => rfl
    | some x => rfl
  · intro e
    unfold fn_X18_enterCall_B50
    rw [hu, lnk_s, ho, grd_true, h9, if_neg nlt, lnk_s, ho, grd_true, h1, cal_s, hu, lnk_s, ho, grd_true, h2, cal_s, if_neg (nI_ne0 (by omega) (by omega))]
/-- what an instruction does -/
def oneD (F : Nat) (sh : Nat → Nat × Nat) (n : Nat) (o : Int32) (x y : Int64) (z : St) : Option (St × Unit) := if (o : Int32) = 0 then lnk (z.2.2 337 40) (fun k_117 => grd (okA sh n k_117 101 ((z.1 337 36) - 1)) (if ((z.1 337 45) : Int32) = (z.1 k_117 ((z.1 337 36) - 1).toNatClampNeg) then cal (fn_X18_slip F sh n z 337) (fun z_122 _ => some (z_122, ())) else lt_ (si z 337 45 ((z.1 337 45) - 1)) (fun z_121 => some (z_121, ())))) else if (o : Int32) = 1 then cal (fn_X18_giveBack F sh n z 337) (fun z_115 _ => some (z_115, ())) else if (5 : Int32) ≤ o then if (o : Int32) < 11 then cal (fn_X18_constant F sh n z 337 o x y) (fun z_48 _ => some (z_48, ())) else if (o : Int32) = 46 then cal (fn_X18_constant F sh n z 337 o x y) (fun z_111 _ => some (z_111, ())) else if (16 : Int32) ≤ o then if (21 : Int32) ≤ o then if (o : Int32) = 21 then cal (fn_X18_pack F sh n z 337 ((x : Int64).toInt32)) (fun z_105 _ => some (z_105, ())) else if (o : Int32) = 22 then cal (fn_X18_unpack F sh n z 337 ((x : Int64).toInt32)) (fun z_103 _ => some (z_103, ())) else if (o : Int32) = 23 then cal (fn_X18_enterCall F sh n z 337 ((x : Int64).toInt32)) (fun z_101 _ => some (z_101, ())) else if (o : Int32) = 32 then fn_X18_one_B305 F sh n o 337 z  else if (o : Int32) = 33 then fn_X18_one_B305 F sh n o 337 z  else if (o : Int32) = 34 then lnk (z.2.2 337 15) (fun k_92 => grd (okO sh n k_92 15) (lnk (z.2.2 k_92 2) (fun k_94 => cal (fn_X18_take F sh n z 337 1) (fun z_95 r_96 => grd (okA sh n k_94 102 r_96) (cal (fn_X18_make F sh n z_95 337 1 0 (1 - (z_95.2.1 k_94 r_96.toNatClampNeg))) (fun z_99 _ => some (z_99, ()))))))) else if (o : Int32) < 35 then cal (fn_X18_reckon F sh n z 337 o) (fun z_66 _ => some (z_66, ())) else if (o : Int32) ≤ 35 then fn_X18_one_B379 F sh n o 337 y x z  else if (42 : Int32) ≤ o then fn_X18_one_B379 F sh n o 337 y x z  else cal (fn_X18_reckon F sh n z 337 o) (fun z_90 _ => some (z_90, ())) else cal (fn_X18_onReference F sh n z 337 o ((y : Int64).toInt32)) (fun z_107 _ => some (z_107, ())) else cal (fn_X18_onLocal F sh n z 337 o ((x : Int64).toInt32)) (fun z_109 _ => some (z_109, ())) else cal (fn_X18_branch F sh n z 337 o ((x : Int64).toInt32)) (fun z_113 _ => some (z_113, ()))
theorem RM.sqU (h : RM sh n z H m fr nf na ak g lim) (ku : Nat) : RM sh n (sq z 337 48 (some ku)) H m fr nf na ak g lim := by
  obtain ⟨hL, hr, hM, hf, ha, g1, g2, g3, g4⟩ := h
  exact ⟨hL.sq rfl, hr, hM.fr (fun _ _ _ => rfl) (fun _ _ _ => rfl), hf, ha, g1, g2, g3, g4⟩
theorem RM.fetch (h : RM sh n z H m fr nf na ak g lim) {ku is op : Nat} {x y : Int64} (hun : z.2.2 341 (fr (nf - 1)).1.1 = some ku) (hu10 : (fr (nf - 1)).1.1 < 10) (ho : okO sh n ku 16 = true) (hi : ∀ z', FrR (sq z 337 48 (some ku)) z' → fn_X16_instructions F sh n z' ku (nI (fr (nf - 1)).1.2.1) = some (z', nI is) ∧ fn_X16_operation F sh n z' ku (nI (fr (nf - 1)).1.2.1) (nI (fr (nf - 1)).1.2.2) = some (z', nI op) ∧ fn_X16_operand F sh n z' ku (nI (fr (nf - 1)).1.2.1) (nI (fr (nf - 1)).1.2.2) 0 = some (z', x) ∧ fn_X16_operand F sh n z' ku (nI (fr (nf - 1)).1.2.1) (nI (fr (nf - 1)).1.2.2) 1 = some (z', y)) (hlt : (fr (nf - 1)).1.2.2 < is) (his : is < 2 ^ 31) : (lim < g + 1 → ∃ z', fn_X18_one F sh n z 337 = some (z', ()) ∧ RE sh n z' 2 5 lim ∧ FrR (sq z 337 48 (some ku)) z') ∧ (g + 1 ≤ lim → ∃ z', fn_X18_one F sh n z 337 = oneD F sh n (nI op) x y z' ∧ RM sh n z' H m (setF fr (nf - 1) (((fr (nf - 1)).1.1, (fr (nf - 1)).1.2.1, (fr (nf - 1)).1.2.2 + 1), (fr (nf - 1)).2.1, (fr (nf - 1)).2.2.1, (fr (nf - 1)).2.2.2)) nf na ak (g + 1) lim ∧ FrR (sq z 337 48 (some ku)) z') := by
  obtain ⟨i1, i2, i3⟩ := h.i0
  have h0 := h.sqU ku
  obtain ⟨hL, hr, hM, hf, ha, g1, g2, g3, g4⟩ := h
  obtain ⟨t1, t2, t3⟩ := hf.top
  obtain ⟨a1, a2, a3, a4, a5, a6, a7⟩ := t1
  have o1 : okA sh n 392 101 (nI (nf - 1)) = true := by rw [lay_a hL 392 101 32 (by decide) rfl]; exact i2
  have o2 : okA sh n 393 101 (nI (nf - 1)) = true := by rw [lay_a hL 393 101 32 (by decide) rfl]; exact i2
  have o3 : okA sh n 391 101 (nI (nf - 1)) = true := by rw [lay_a hL 391 101 32 (by decide) rfl]; exact i2
  have o4 : okA sh n 341 106 (nI (fr (nf - 1)).1.1) = true := by rw [lay_a hL 341 106 10 (by decide) rfl]; exact okI_nI hu10 (by omega)
  have lk : (sq z 337 48 (some ku)).2.2 337 48 = some ku := by simp [sq]
  obtain ⟨j1, _, _, _⟩ := hi _ FrR.rfl'
  have vlt : nI (fr (nf - 1)).1.2.2 < nI is := by rw [Int32.lt_iff_le_and_ne]; exact ⟨(nI_leI (by omega) his).mpr (by omega), fun q => by have := (nI_ij (by omega) his).mp q; omega⟩
  have st : fn_X18_one F sh n z 337 = fn_X18_one_B60 F sh n 337 (nI (fr (nf - 1)).1.2.2) (nI (fr (nf - 1)).1.2.1) (sq z 337 48 (some ku)) := by
    unfold fn_X18_one
    rw [(b_model hL).1, grd_true, hL.2.2 337 38 392 rfl, lnk_s, hf.1, i1, o1, grd_true, i3, a3, lt_t, hL.2.2 337 39 393 rfl, lnk_s, o2, grd_true, a4, lt_t, hL.2.2 337 4 341 rfl, lnk_s, hL.2.2 337 37 391 rfl, lnk_s, o3, grd_true, a2, o4, grd_true, nI_clamp (by omega), hun, lnk_s, lt_t, lk, lnk_s, ho, grd_true, j1, cal_s, if_pos vlt]
  rw [st]
  constructor
  · intro hg
    obtain ⟨z2, s1, s2, s3⟩ := h0.spendE (F := F) hg (by omega)
    refine ⟨z2, ?_, s2, s3⟩
    unfold fn_X18_one_B60
    rw [show (1 : Int32) = nI 1 from rfl, s1, cal_s, if_pos rfl]
  · intro hg
    obtain ⟨z2, s1, s2, s3⟩ := h0.spend (F := F) hg
    obtain ⟨n1, n2⟩ := s2.nx ((fr (nf - 1)).1.2.2 + 1)
    obtain ⟨_, j2, j3, j4⟩ := hi _ (s3.trans n2)
    refine ⟨_, ?_, n1, s3.trans n2⟩
    have lk2 : z2.2.2 337 48 = some ku := by rw [s3.1]; exact lk
    unfold fn_X18_one_B60
    have s1' : fn_X18_spend F sh n (sq z 337 48 (some ku)) 337 1 = some (z2, 1) := s1
    rw [s1', cal_s, if_neg one0, s2.1.2.2 337 39 393 rfl, lnk_s, s2.2.2.2.1.1, i1, o2, grd_true, i3, lt_t, nI_1, show (si z2 393 (nf - 1) (nI ((fr (nf - 1)).1.2.2 + 1))).2.2 337 48 = some ku from lk2, lnk_s, ho, grd_true, j2, cal_s, show (si z2 393 (nf - 1) (nI ((fr (nf - 1)).1.2.2 + 1))).2.2 337 48 = some ku from lk2, lnk_s, ho, grd_true, j3, cal_s, show (si z2 393 (nf - 1) (nI ((fr (nf - 1)).1.2.2 + 1))).2.2 337 48 = some ku from lk2, lnk_s, ho, grd_true, j4, cal_s]
    rfl
end
