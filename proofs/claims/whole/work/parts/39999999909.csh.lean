/-! THE CLASS'S MACHINE: constants; a step comes to its operation -/
def stepD (F : Nat) (sh : Nat → Nat × Nat) (n : Nat) (k_4 : Nat) (r_23 r_26 r_29 : Int32) (z_35 : St) : Option (St × Unit) := if (r_26 : Int32) ≤ 4 then fn_X4_step_B128 F sh n k_4 r_23 87 r_26 z_35 else if (r_26 : Int32) = 45 then fn_X4_step_B128 F sh n k_4 r_23 87 r_26 z_35 else if (r_26 : Int32) ≤ 10 then fn_X4_step_B167 F sh n 87 r_26 k_4 r_23 z_35 else if (r_26 : Int32) = 35 then fn_X4_step_B167 F sh n 87 r_26 k_4 r_23 z_35 else if (r_26 : Int32) = 46 then fn_X4_step_B167 F sh n 87 r_26 k_4 r_23 z_35 else if (15 : Int32) < r_26 then if (20 : Int32) < r_26 then if (r_26 : Int32) = 21 then cal (fn_X5_fieldCount F sh n z_35 k_4 r_29) (fun z_88 r_89 => cal (fn_X4_gather F sh n z_88 87 6 r_89) (fun z_91 _ => some (z_91, ()))) else if (r_26 : Int32) = 22 then cal (fn_X5_fieldCount F sh n z_35 k_4 r_29) (fun z_83 r_84 => cal (fn_X4_scatter F sh n z_83 87 r_84) (fun z_86 _ => some (z_86, ()))) else if (r_26 : Int32) = 23 then cal (fn_X5_functionColumn F sh n z_35 k_4 r_29 7) (fun z_72 r_73 => cal (fn_X5_functionColumn F sh n z_72 k_4 r_29 8) (fun z_75 r_76 => if (r_73 : Int32) = 0 then cal (fn_X4_useCoin F sh n z_75 87 r_76) (fun z_81 _ => some (z_81, ())) else cal (fn_X4_enter F sh n z_75 87 r_73 r_76) (fun z_79 _ => some (z_79, ())))) else if (44 : Int32) < r_26 then if (51 : Int32) < r_26 then if (r_26 : Int32) = 59 then cal (fn_X4_hash F sh n z_35 87) (fun z_66 _ => some (z_66, ())) else cal (fn_X5_at F sh n z_35 k_4 (r_23 + 2)) (fun z_61 r_62 => cal (fn_X4_lineUp F sh n z_61 87 r_26 r_62) (fun z_64 _ => some (z_64, ()))) else cal (fn_X4_keep F sh n z_35 87 r_26 (z_35.1 k_4 2) r_29) (fun z_68 _ => some (z_68, ())) else cal (fn_X4_reckon F sh n z_35 87 r_26) (fun z_70 _ => some (z_70, ())) else cal (fn_X5_at F sh n z_35 k_4 (r_23 + 2)) (fun z_93 r_94 => cal (fn_X4_refer F sh n z_93 87 r_26 r_94) (fun z_96 _ => some (z_96, ()))) else lt_ (if 39 < r_29 then 39 else r_29) (fun v_98 => cal (fn_X4_useLocal F sh n z_35 87 r_26 (((z_35.1 87 12) * 40) + v_98)) (fun z_99 _ => some (z_99, ())))
theorem cal_u {x : Option (St × Unit)} : cal x (fun z _ => some (z, ())) = x := by
  cases x with
  | none => rfl
  | some p => rfl
section
variable {F n : Nat} {sh : Nat → Nat × Nat} {z z' : St} {p o a : Nat} {w : Int32}
theorem nle {k : Nat} {x : Int32} (m : Nat) (hx : x = nI m) (hk : k < 2 ^ 31) (hm : m < 2 ^ 31) (h : m < k) : ¬ nI k ≤ x := fun q => by have := (nIle m hx hk hm).mp q; omega
theorem nne {k : Nat} {x : Int32} (m : Nat) (hx : x = nI m) (hk : k < 2 ^ 31) (hm : m < 2 ^ 31) (h : k ≠ m) : ¬ nI k = x := fun q => h ((nIe m hx hk hm).mp q)
theorem ngt {k : Nat} {x : Int32} (m : Nat) (hx : x = nI m) (hk : k < 2 ^ 31) (hm : m < 2 ^ 31) (h : k ≤ m) : ¬ x < nI k := fun q => by have := (nIgt m hx hk hm).mp q; omega
theorem stepD_st (ho : o ≤ 4 ∨ o = 45) : stepD F sh n p w (nI o) (nI a) z = cal (fn_X5_numberAt F sh n z p (w + 1) 2) (fun z_40 r_41 => fn_X4_steer F sh n z_40 87 (nI o) ((r_41 : Int64).toInt32)) := by
  have e : fn_X4_step_B128 F sh n p w 87 (nI o) z = cal (fn_X5_numberAt F sh n z p (w + 1) 2) (fun z_40 r_41 => fn_X4_steer F sh n z_40 87 (nI o) ((r_41 : Int64).toInt32)) := by
    unfold fn_X4_step_B128
    congr 1
    funext z1 r1
    exact cal_u
  unfold stepD
  by_cases c : o ≤ 4
  · rw [if_pos ((nIle (k := o) (x := 4) 4 rfl (by omega) (by omega)).mpr c), e]
  · rw [if_neg (nle (k := o) (x := 4) 4 rfl (by omega) (by omega) (by omega)), if_pos ((nIe (k := o) (x := 45) 45 rfl (by omega) (by omega)).mpr (by omega)), e]
theorem stepD_se (ho : (5 ≤ o ∧ o ≤ 10) ∨ o = 35 ∨ o = 46) : stepD F sh n p w (nI o) (nI a) z = fn_X4_set F sh n z 87 (nI o) p (w + 1) := by
  have e : fn_X4_step_B167 F sh n 87 (nI o) p w z = fn_X4_set F sh n z 87 (nI o) p (w + 1) := by
    unfold fn_X4_step_B167
    exact cal_u
  unfold stepD
  rw [if_neg (nle (k := o) (x := 4) 4 rfl (by omega) (by omega) (by omega)), if_neg (nne (k := o) (x := 45) 45 rfl (by omega) (by omega) (by omega))]
  by_cases c : o ≤ 10
  · rw [if_pos ((nIle (k := o) (x := 10) 10 rfl (by omega) (by omega)).mpr c), e]
  · rw [if_neg (nle (k := o) (x := 10) 10 rfl (by omega) (by omega) (by omega))]
    by_cases d : o = 35
    · rw [if_pos ((nIe (k := o) (x := 35) 35 rfl (by omega) (by omega)).mpr d), e]
    · rw [if_neg (nne (k := o) (x := 35) 35 rfl (by omega) (by omega) (by omega)), if_pos ((nIe (k := o) (x := 46) 46 rfl (by omega) (by omega)).mpr (by omega)), e]
theorem stepD_lo (ho : 11 ≤ o) (ho2 : o ≤ 15) (ha : a < 40) {t : Nat} (ht : z.1 87 12 = nI t) : stepD F sh n p w (nI o) (nI a) z = fn_X4_useLocal F sh n z 87 (nI o) (nI (t * 40 + a)) := by
  unfold stepD
  rw [if_neg (nle (k := o) (x := 4) 4 rfl (by omega) (by omega) (by omega)), if_neg (nne (k := o) (x := 45) 45 rfl (by omega) (by omega) (by omega)), if_neg (nle (k := o) (x := 10) 10 rfl (by omega) (by omega) (by omega)), if_neg (nne (k := o) (x := 35) 35 rfl (by omega) (by omega) (by omega)), if_neg (nne (k := o) (x := 46) 46 rfl (by omega) (by omega) (by omega)), if_neg (ngt (k := o) (x := 15) 15 rfl (by omega) (by omega) (by omega)), if_neg (ngt (k := a) (x := 39) 39 rfl (by omega) (by omega) (by omega)), lt_t, cal_u, ht, show (40 : Int32) = nI 40 from rfl, pk_mul, nI_add]
theorem stepD_re (ho : 16 ≤ o) (ho2 : o ≤ 20) {b : Int32} (hb : fn_X5_at F sh n z p (w + 2) = some (z, b)) : stepD F sh n p w (nI o) (nI a) z = fn_X4_refer F sh n z 87 (nI o) b := by
  unfold stepD
  rw [if_neg (nle (k := o) (x := 4) 4 rfl (by omega) (by omega) (by omega)), if_neg (nne (k := o) (x := 45) 45 rfl (by omega) (by omega) (by omega)), if_neg (nle (k := o) (x := 10) 10 rfl (by omega) (by omega) (by omega)), if_neg (nne (k := o) (x := 35) 35 rfl (by omega) (by omega) (by omega)), if_neg (nne (k := o) (x := 46) 46 rfl (by omega) (by omega) (by omega)), if_pos ((nIgt (k := o) (x := 15) 15 rfl (by omega) (by omega)).mpr (by omega)), if_neg (ngt (k := o) (x := 20) 20 rfl (by omega) (by omega) (by omega)), hb, cal_s, cal_u]
theorem stepD_21 {c : Int32} (hb : fn_X5_fieldCount F sh n z p (nI a) = some (z, c)) : stepD F sh n p w (nI 21) (nI a) z = fn_X4_gather F sh n z 87 6 c := by
  unfold stepD
  rw [if_neg (by decide), if_neg (by decide), if_neg (by decide), if_neg (by decide), if_neg (by decide), if_pos (by decide), if_pos (by decide), if_pos (by rfl), hb, cal_s, cal_u]
theorem stepD_22 {c : Int32} (hb : fn_X5_fieldCount F sh n z p (nI a) = some (z, c)) : stepD F sh n p w (nI 22) (nI a) z = fn_X4_scatter F sh n z 87 c := by
  unfold stepD
  rw [if_neg (by decide), if_neg (by decide), if_neg (by decide), if_neg (by decide), if_neg (by decide), if_pos (by decide), if_pos (by decide), if_neg (by decide), if_pos (by rfl), hb, cal_s, cal_u]
theorem stepD_23 {u f : Nat} (h7 : fn_X5_functionColumn F sh n z p (nI a) 7 = some (z, nI u)) (h8 : fn_X5_functionColumn F sh n z p (nI a) 8 = some (z, nI f)) (hu : u < 2 ^ 31) : stepD F sh n p w (nI 23) (nI a) z = if u = 0 then fn_X4_useCoin F sh n z 87 (nI f) else fn_X4_enter F sh n z 87 (nI u) (nI f) := by
  unfold stepD
  rw [if_neg (by decide), if_neg (by decide), if_neg (by decide), if_neg (by decide), if_neg (by decide), if_pos (by decide), if_pos (by decide), if_neg (by decide), if_neg (by decide), if_pos (by rfl), h7, cal_s, h8, cal_s, cal_u, cal_u]
  by_cases c : u = 0
  · subst c; rw [if_pos (by rfl), if_pos rfl]
  · rw [if_neg (nI_ne0 (by omega) hu), if_neg c]
theorem stepD_rk (ho : 24 ≤ o) (ho2 : o ≤ 44) (h35 : o ≠ 35) : stepD F sh n p w (nI o) (nI a) z = fn_X4_reckon F sh n z 87 (nI o) := by
  unfold stepD
  rw [if_neg (nle (k := o) (x := 4) 4 rfl (by omega) (by omega) (by omega)), if_neg (nne (k := o) (x := 45) 45 rfl (by omega) (by omega) (by omega)), if_neg (nle (k := o) (x := 10) 10 rfl (by omega) (by omega) (by omega)), if_neg (nne (k := o) (x := 35) 35 rfl (by omega) (by omega) (by omega)), if_neg (nne (k := o) (x := 46) 46 rfl (by omega) (by omega) (by omega)), if_pos ((nIgt (k := o) (x := 15) 15 rfl (by omega) (by omega)).mpr (by omega)), if_pos ((nIgt (k := o) (x := 20) 20 rfl (by omega) (by omega)).mpr (by omega)), if_neg (nne (k := o) (x := 21) 21 rfl (by omega) (by omega) (by omega)), if_neg (nne (k := o) (x := 22) 22 rfl (by omega) (by omega) (by omega)), if_neg (nne (k := o) (x := 23) 23 rfl (by omega) (by omega) (by omega)), if_neg (ngt (k := o) (x := 44) 44 rfl (by omega) (by omega) (by omega)), cal_u]
theorem stepD_ke (ho : 47 ≤ o) (ho2 : o ≤ 51) : stepD F sh n p w (nI o) (nI a) z = fn_X4_keep F sh n z 87 (nI o) (z.1 p 2) (nI a) := by
  unfold stepD
  rw [if_neg (nle (k := o) (x := 4) 4 rfl (by omega) (by omega) (by omega)), if_neg (nne (k := o) (x := 45) 45 rfl (by omega) (by omega) (by omega)), if_neg (nle (k := o) (x := 10) 10 rfl (by omega) (by omega) (by omega)), if_neg (nne (k := o) (x := 35) 35 rfl (by omega) (by omega) (by omega)), if_neg (nne (k := o) (x := 46) 46 rfl (by omega) (by omega) (by omega)), if_pos ((nIgt (k := o) (x := 15) 15 rfl (by omega) (by omega)).mpr (by omega)), if_pos ((nIgt (k := o) (x := 20) 20 rfl (by omega) (by omega)).mpr (by omega)), if_neg (nne (k := o) (x := 21) 21 rfl (by omega) (by omega) (by omega)), if_neg (nne (k := o) (x := 22) 22 rfl (by omega) (by omega) (by omega)), if_neg (nne (k := o) (x := 23) 23 rfl (by omega) (by omega) (by omega)), if_pos ((nIgt (k := o) (x := 44) 44 rfl (by omega) (by omega)).mpr (by omega)), if_neg (ngt (k := o) (x := 51) 51 rfl (by omega) (by omega) (by omega)), cal_u]
theorem stepD_li (ho : 52 ≤ o) (ho2 : o ≤ 58) {b : Int32} (hb : fn_X5_at F sh n z p (w + 2) = some (z, b)) : stepD F sh n p w (nI o) (nI a) z = fn_X4_lineUp F sh n z 87 (nI o) b := by
  unfold stepD
  rw [if_neg (nle (k := o) (x := 4) 4 rfl (by omega) (by omega) (by omega)), if_neg (nne (k := o) (x := 45) 45 rfl (by omega) (by omega) (by omega)), if_neg (nle (k := o) (x := 10) 10 rfl (by omega) (by omega) (by omega)), if_neg (nne (k := o) (x := 35) 35 rfl (by omega) (by omega) (by omega)), if_neg (nne (k := o) (x := 46) 46 rfl (by omega) (by omega) (by omega)), if_pos ((nIgt (k := o) (x := 15) 15 rfl (by omega) (by omega)).mpr (by omega)), if_pos ((nIgt (k := o) (x := 20) 20 rfl (by omega) (by omega)).mpr (by omega)), if_neg (nne (k := o) (x := 21) 21 rfl (by omega) (by omega) (by omega)), if_neg (nne (k := o) (x := 22) 22 rfl (by omega) (by omega) (by omega)), if_neg (nne (k := o) (x := 23) 23 rfl (by omega) (by omega) (by omega)), if_pos ((nIgt (k := o) (x := 44) 44 rfl (by omega) (by omega)).mpr (by omega)), if_pos ((nIgt (k := o) (x := 51) 51 rfl (by omega) (by omega)).mpr (by omega)), if_neg (nne (k := o) (x := 59) 59 rfl (by omega) (by omega) (by omega)), hb, cal_s, cal_u]
theorem stepD_59 : stepD F sh n p w (nI 59) (nI a) z = fn_X4_hash F sh n z 87 := by
  unfold stepD
  rw [if_neg (by decide), if_neg (by decide), if_neg (by decide), if_neg (by decide), if_neg (by decide), if_pos (by decide), if_pos (by decide), if_neg (by decide), if_neg (by decide), if_neg (by decide), if_pos (by decide), if_pos (by decide), if_pos (by rfl), cal_u]
end
section
variable {F n : Nat} {sh : Nat → Nat × Nat} {z z' : St} {pk : Nat → Nat} {kt : Nat} {H : Hp} {m : Nat} {sl0 : Int32} {fr : Nat → Fm} {cs cl : Nat → Nat → Nat} {nf g lim na : Nat} {ak : Nat → Ask} {cn : Nat → Nat} {ws : Nat → Int64 → Nat → Bool}
/-- 5 .. 10, 46 -/
theorem CM.set1 (h : CM sh n z pk kt H m sl0 fr cs cl nf g lim) (h64 : (fr (nf - 1)).2.2.1.1 < 64) (hm : m < 21600) {o p k : Nat} {w : Int32} {x y : Int64} (ho : okO sh n p 5 = true) (hk : (o = 5 ∧ k = 2 ∧ x = 0 ∧ ∃ b : Nat, b < 256 ∧ y = lN b ∧ fn_X5_at F sh n z p w = some (z, nI b)) ∨ (o = 6 ∧ k = 3 ∧ x = 0 ∧ fn_X5_numberAt F sh n z p w 8 = some (z, y)) ∨ (o = 7 ∧ k = 4 ∧ fn_X5_numberAt F sh n z p w 8 = some (z, x) ∧ fn_X5_numberAt F sh n z p (w + 8) 8 = some (z, y)) ∨ (o = 8 ∧ k = 1 ∧ x = 0 ∧ y = 1) ∨ (o = 9 ∧ k = 1 ∧ x = 0 ∧ y = 0) ∨ (o = 10 ∧ k = 5 ∧ x = 0 ∧ fn_X5_numberAt F sh n z p w 8 = some (z, y)) ∨ (o = 46 ∧ k = 5 ∧ x = 0 ∧ y = z.2.1 kt 1)) (s : Sl) : ∃ z', fn_X4_set F sh n z 87 (nI o) p w = some (z', ()) ∧ CM sh n z' pk kt (upH H m (k, x, y, [])) (m + 1) sl0 (setF fr (nf - 1) (pshV (fr (nf - 1)) s)) (up2 cs (nf - 1) (fr (nf - 1)).2.2.1.1 m) cl nf g lim ∧ FrC z z' := by
  have k11 : k < 11 ∧ ¬ inn k := by
    rcases hk with ⟨_, e, _⟩ | ⟨_, e, _⟩ | ⟨_, e, _⟩ | ⟨_, e, _⟩ | ⟨_, e, _⟩ | ⟨_, e, _⟩ | ⟨_, e, _⟩ <;> subst e <;> exact ⟨by omega, by unfold inn; omega⟩
  obtain ⟨z1, p1, p2, p3⟩ := h.make (F := F) h64 hm (k := k) (x := x) (y := y) k11.1 k11.2 s
  refine ⟨z1, ?_, p2, p3⟩
  have mk := (b_mach h.1).1
  unfold fn_X4_set
  rcases hk with ⟨e, e1, e2, b, hb, e3, e4⟩ | ⟨e, e1, e2, e3⟩ | ⟨e, e1, e2, e3⟩ | ⟨e, e1, e2, e3⟩ | ⟨e, e1, e2, e3⟩ | ⟨e, e1, e2, e3⟩ | ⟨e, e1, e2, e3⟩ <;> subst e <;> subst e1
  · subst e2; subst e3
    have p1' : fn_X4_pushNumber F sh n z 87 2 0 (lN b) = some (z1, ()) := p1
    rw [if_pos (by rfl), ho, grd_true, e4, cal_s, mk, grd_true, nI_l (by omega), p1', cal_s]
  · subst e2
    have p1' : fn_X4_pushNumber F sh n z 87 3 0 y = some (z1, ()) := p1
    rw [if_neg (by decide), if_pos (by rfl), ho, grd_true, e3, cal_s, mk, grd_true, p1', cal_s]
  · have p1' : fn_X4_pushNumber F sh n z 87 4 x y = some (z1, ()) := p1
    rw [if_neg (by decide), if_neg (by decide), if_pos (by rfl), ho, grd_true, e2, cal_s, e3, cal_s, mk, grd_true, p1', cal_s]
  · subst e2; subst e3
    have p1' : fn_X4_pushNumber F sh n z 87 1 0 ((9 - nI 8 : Int32).toInt64) = some (z1, ()) := p1
    rw [if_neg (by decide), if_neg (by decide), if_neg (by decide), if_pos (by rfl), mk, grd_true, p1', cal_s]
  · subst e2; subst e3
    have p1' : fn_X4_pushNumber F sh n z 87 1 0 ((9 - nI 9 : Int32).toInt64) = some (z1, ()) := p1
    rw [if_neg (by decide), if_neg (by decide), if_neg (by decide), if_neg (by decide), if_pos (by rfl), mk, grd_true, p1', cal_s]
  · subst e2
    have p1' : fn_X4_pushNumber F sh n z 87 5 0 y = some (z1, ()) := p1
    rw [if_neg (by decide), if_neg (by decide), if_neg (by decide), if_neg (by decide), if_neg (by decide), if_pos (by rfl), ho, grd_true, e3, cal_s, mk, grd_true, p1', cal_s]
  · subst e2; subst e3
    obtain ⟨t1, t2, t3, t4⟩ := h.2.2.2.2.1
    have p1' : fn_X4_pushNumber F sh n z 87 5 0 (z.2.1 kt 1) = some (z1, ()) := p1
    rw [if_neg (by decide), if_neg (by decide), if_neg (by decide), if_neg (by decide), if_neg (by decide), if_neg (by decide), if_pos (by rfl), mk, grd_true, t1, lnk_s, t2, grd_true, p1', cal_s]
theorem set35 {p : Nat} {w : Int32} : fn_X4_set F sh n z 87 (nI 35) p w = some (z, ()) := by
  unfold fn_X4_set
  rw [if_neg (by decide), if_neg (by decide), if_neg (by decide), if_neg (by decide), if_neg (by decide), if_neg (by decide), if_neg (by decide)]
/-- a step is paid and comes to its operation -/
theorem CM.step (h : CM sh n z pk kt H m sl0 fr cs cl nf g lim) {is w op a : Nat} (ho : okO sh n (pk (fr (nf - 1)).1.1) 5 = true) (hi : fn_X5_instructions F sh n z (pk (fr (nf - 1)).1.1) (nI (fr (nf - 1)).1.2.1) = some (z, nI is)) (hp : fn_X5_instructionPlace F sh n z (pk (fr (nf - 1)).1.1) (nI (fr (nf - 1)).1.2.1) (nI (fr (nf - 1)).1.2.2) = some (z, nI w)) (hop : fn_X5_at F sh n z (pk (fr (nf - 1)).1.1) (nI w) = some (z, nI op)) (ha : fn_X5_at F sh n z (pk (fr (nf - 1)).1.1) (nI w + 1) = some (z, nI a)) (hlt : (fr (nf - 1)).1.2.2 < is) (his : is < 2 ^ 31) : (lim < g + 1 → ∃ z', fn_X4_step F sh n z 87 = some (z', ()) ∧ CE sh n z' 2 5 lim sl0 ∧ FrC z z') ∧ (g + 1 ≤ lim → ∃ z', fn_X4_step F sh n z 87 = stepD F sh n (pk (fr (nf - 1)).1.1) (nI w) (nI op) (nI a) z' ∧ CM sh n z' pk kt H m sl0 (setF fr (nf - 1) (((fr (nf - 1)).1.1, (fr (nf - 1)).1.2.1, (fr (nf - 1)).1.2.2 + 1), (fr (nf - 1)).2.1, (fr (nf - 1)).2.2.1, (fr (nf - 1)).2.2.2)) cs cl nf (g + 1) lim ∧ FrC z z') := by
  obtain ⟨t1, t2, t3⟩ := h.t0
  obtain ⟨b1, b2, b3, b4, b5, b6, b7⟩ := h.2.2.1.2.2.2 (nf - 1) (by have := h.2.2.1.2.1; omega)
  have n32 := h.2.2.1.2.2.1
  have n0 := h.2.2.1.2.1
  have ok : ∀ k w, 98 ≤ k → k ≤ 101 → shF k = (w, 32) → okA sh n k w (nI (nf - 1)) = true := fun k w k1 k2 e => by rw [lay_a h.1 k w 32 (by omega) e]; exact okI_nI (by omega) (by omega)
  obtain ⟨C1, f1⟩ := h.nx ((fr (nf - 1)).1.2.2 + 1)
  have L := h.1
  have E : ∀ r, (fn_X4_pay F sh n (si z 100 (nf - 1) (nI ((fr (nf - 1)).1.2.2 + 1))) 87 1 = r) → fn_X4_step F sh n z 87 = cal r (fun z_35 r_36 => if (r_36 : Int32) = 0 then some (z_35, ()) else stepD F sh n (pk (fr (nf - 1)).1.1) (nI w) (nI op) (nI a) z_35) := fun r hr => by
    unfold fn_X4_step
    rw [(b_mach L).1, grd_true, L.2.2 87 6 98 rfl, lnk_s, t1, ok 98 104 (by omega) (by omega) rfl, grd_true, t3, b2, lnk_s, L.2.2 87 8 100 rfl, lnk_s, ok 100 101 (by omega) (by omega) rfl, grd_true, b4, lt_t, L.2.2 87 7 99 rfl, lnk_s, ok 99 101 (by omega) (by omega) rfl, grd_true, ho, grd_true, b3, hi, cal_s, if_pos ((nI_ltI (by omega) his).mpr hlt), L.2.2 87 7 99 rfl, lnk_s, t1, ok 99 101 (by omega) (by omega) rfl, grd_true, t3, b3, hp, cal_s, hop, cal_s, ha, cal_s, L.2.2 87 8 100 rfl, lnk_s, t1, ok 100 101 (by omega) (by omega) rfl, grd_true, t3, nI_1, lt_t, hr]
    rfl
  constructor
  · intro hg
    obtain ⟨z1, p1, p2, p3⟩ := C1.payE (F := F) (c := 1) hg (by omega)
    exact ⟨z1, by rw [E _ p1, cal_s, if_pos rfl], p2, f1.trans p3⟩
  · intro hg
    obtain ⟨z1, p1, p2, p3⟩ := C1.pay (F := F) (c := 1) hg
    exact ⟨z1, by rw [E _ p1, cal_s, if_neg one0], p2, f1.trans p3⟩
end
