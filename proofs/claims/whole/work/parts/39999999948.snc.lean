/-! BOTH MACHINES SIDE BY SIDE: a call to its end -/
def aftR (F : Nat) (sh : Nat → Nat × Nat) (n : Nat) (x0 : Int32) (z : St) : Option (St × Unit) := if ((z.1 337 27) : Int32) = 0 then cal (fn_X18_isTooMuch F sh n z 337) (fun z_87 r_88 => if (r_88 : Int32) = 0 then fn_X18_callOne_B181 F sh n 337 x0 z_87 else lt_ (si z_87 337 27 2) (fun z_92 => lt_ (sl z_92 337 28 4) (fun z_94 => fn_X18_callOne_B181 F sh n 337 x0 z_94))) else fn_X18_callOne_B181 F sh n 337 x0 z
section
variable {E : Ev} {ub : Nat × Nat} {F n : Nat} {sh : Nat → Nat × Nat} {pk kr : Nat → Nat} {kt : Nat} {sl0 : Int32} {lim : Nat} {z0 y0 : St} {Ms : Nat → Option Md} {Ce : Nat → Nat → Nat → Lks}
variable {SF : Nat → List Nat} {sd : Int64} {nc nr nrc : Nat} {ac acC : Nat → Int64 × Int64 × Int64} {rs : Nat → Int64 × Nat × Hp × Nat} {so : Nat → Option Rsc} {x0 : Int32} {ws : Nat → Int64 → Nat → Bool}
theorem L141_e {z : St} {f g o : Nat} {c : Int64} (h : RE sh n z o c g) (ho : o < 2 ^ 31) : fn_X18_callOne_L141 F sh n 337 x0 (f + 1) z = aftR F sh n x0 z := by
  show cal (fn_X18_goesOn F sh n z 337) _ = _
  rw [h.goes ho, cal_s, if_pos rfl]
  rfl
theorem si_same {z : St} {k j : Nat} {v : Int32} (h : z.1 k j = v) : si z k j v = z := by
  have : (fun k' j' => if k' = k then (if j' = j then v else z.1 k j') else z.1 k' j') = z.1 := by
    funext k' j'
    by_cases a : k' = k
    · rw [if_pos a]
      by_cases b : j' = j
      · rw [if_pos b, a, b, h]
      · rw [if_neg b, a]
    · rw [if_neg a]
  show ((fun k' j' => if k' = k then (if j' = j then v else z.1 k j') else z.1 k' j'), z.2.1, z.2.2) = z
  rw [this]
theorem CE.sl {z : St} {o : Nat} {c : Int64} {g : Nat} {s : Int32} (h : CE sh n z o c g s) : z.1 88 6 = s := by
  obtain ⟨_, _, _, _, _, _, _, _, _, _, _, w⟩ := h
  exact w
theorem L134_e {z : St} {f g o : Nat} {c : Int64} {sl1 : Int32} (h : CE sh n z o c g sl1) (p : Int32) : fn_X4_run_L134 F sh n 87 (f + 1) z p = fn_X4_run_B186 F sh n 87 z := by
  show (if (20000 : Int32) < p then fn_X4_run_B186 F sh n 87 z else if ((z.1 87 15) : Int32) = 0 then fn_X4_run_B186 F sh n 87 z else _) = _
  by_cases q : (20000 : Int32) < p
  · rw [if_pos q]
  · rw [if_neg q, if_pos h.2.1]
theorem run_sim (hF : 300 ≤ F) (W : ∀ z, Lay sh n z → WM sh n z.2.2 368 369 370 371) (hE : EvOk E) (hA : EvA E) (hC : E.2.1 256 ≤ 38 ∧ E.2.1 11 ≤ 38) (hsl : ¬ sl0 + 1 < sl0) (wd : Wld E Ms Ce) (lw : LgW pk Ms) (dy : Dy F sh n z0 y0 kr pk Ms) (rl : RLg z0 nc ac nr rs) (cg : CLg y0 nc acC nrc so) (lg : LgR E SF sd nc ac acC nr rs so ws) (hsd : z0.2.1 337 24 = y0.2.1 kt 1) : ∀ (d : Nat) (zr zc : St) (H : Hp) (m : Nat) (ty : Nat → Nat) (fr : Nat → Fm) (nf na : Nat) (ak : Nat → Ask) (g : Nat) (Hc : Hp) (mc : Nat) (phi : Nat → Nat) (Rn : Nat → Option Nat) (cs cl : Nat → Nat → Nat) (cn : Nat → Nat) (p f1 f2 : Nat), lim - g ≤ d → FrB z0 zr → FrX y0 zc → Sm E sh n pk kt sl0 lim 0 zr zc H m ty fr nf na ak g Hc mc phi Rn cs cl cn ws → Fi ub Ms Ce fr nf na ak → (0 < na ∧ (ak 0).1 = 1 ∧ (ak 0).2.1 = sd) → p ≤ g → d + 2 ≤ f1 → d + 2 ≤ f2 → ∃ zr' zc', fn_X18_callOne_L141 F sh n 337 x0 f1 zr = aftR F sh n x0 zr' ∧ fn_X4_run_L134 F sh n 87 f2 zc (nI p) = fn_X4_run_B186 F sh n 87 zc' ∧ FrB z0 zr' ∧ FrX y0 zc' ∧ ((∃ o c g', (o = 1 ∨ o = 2) ∧ RE sh n zr' o c g' ∧ CE sh n zc' o c g' sl0) ∨ ∃ na' ak' g', AkL na ak g na' ak' g' ∧ Done ub E sh n pk sl0 Ms zr' zc' na' ak' g' ws) := by
  intro d
  induction d with
  | zero =>
    intro zr zc H m ty fr nf na ak g Hc mc phi Rn cs cl cn p f1 f2 hd b0 b1 h fi h0 hp hf1 hf2
    obtain ⟨f1', rfl⟩ : ∃ k, f1 = k + 2 := ⟨f1 - 2, by omega⟩
    obtain ⟨f2', rfl⟩ : ∃ k, f2 = k + 2 := ⟨f2 - 2, by omega⟩
    obtain ⟨z1, z2, s1, s2, s3, s4, s5⟩ := step_sim hF W hE hA hC wd lw dy b0 b1 rl cg lg hsd h fi h0
    have g20 := h.2.2.1.2.2.2.2.2.2
    have n20 : ¬ (20000 : Int32) < nI p := ngt (k := p) (x := 20000) 20000 rfl (by omega) (by omega) (by omega)
    have r1 : fn_X18_callOne_L141 F sh n 337 x0 (f1' + 2) zr = fn_X18_callOne_L141 F sh n 337 x0 (f1' + 1) z1 := by
      show cal (fn_X18_goesOn F sh n zr 337) _ = _
      rw [h.2.1.goes, cal_s, if_neg one0, s1, cal_s]
    have hz2 : Lay sh n z2 ∧ z2.1 88 6 = sl0 := by
      rcases s5 with ⟨o, c, g', ho, e1, e2⟩ | ⟨na', ak', g', a1, a2⟩ | ⟨H', m', ty', fr', nf', na', ak', g', Hc', mc', phi', Rn', cs', cl', cn', a1, a2, a3⟩
      · exact ⟨e2.1, e2.sl⟩
      · obtain ⟨_, _, _, _, _, _, _, _, _, _, _, q1, q2, _⟩ := a2
        exact ⟨q2.1, q2.sl⟩
      · exact ⟨a1.2.2.1.1, a1.2.2.1.2.1.2.2.2.1⟩
    have r2 : fn_X4_run_L134 F sh n 87 (f2' + 2) zc (nI p) = fn_X4_run_L134 F sh n 87 (f2' + 1) z2 (nI p + 1) := by
      show (if (20000 : Int32) < nI p then _ else if ((zc.1 87 15) : Int32) = 0 then _ else _) = _
      rw [if_neg n20, h.2.2.1.2.2.2.1.1, if_neg one0, h.2.2.1.1.2.2 87 1 88 rfl, lnk_s, (b_heap h.2.2.1.1).1, grd_true, lt_t, s2, cal_s, hz2.1.2.2 87 1 88 rfl, lnk_s, lnk_s, (b_heap h.2.2.1.1).1, grd_true, lt_t, h.2.2.1.2.1.2.2.2.1, hz2.2, if_neg hsl, grd_true, lt_t, si_same hz2.2]
    rcases s5 with ⟨o, c, g', ho, e1, e2⟩ | ⟨na', ak', g', a1, a2⟩ | ⟨H', m', ty', fr', nf', na', ak', g', Hc', mc', phi', Rn', cs', cl', cn', a1, a2, a3⟩
    · exact ⟨z1, z2, r1.trans (L141_e e1 (by omega)), r2.trans (L134_e e2 _), b0.trans s3, b1.trans s4, .inl ⟨o, c, g', ho, e1, e2⟩⟩
    · have a2' := a2
      obtain ⟨_, _, _, _, _, _, _, _, _, _, _, q1, q2, _⟩ := a2'
      exact ⟨z1, z2, r1.trans (L141_e q1.1 (by omega)), r2.trans (L134_e q2 _), b0.trans s3, b1.trans s4, .inr ⟨na', ak', g', a1, a2⟩⟩
    · have := a1.2.2.1.2.2.2.2.2.2.1
      have := a3.2.1
      omega
  | succ d ih =>
    intro zr zc H m ty fr nf na ak g Hc mc phi Rn cs cl cn p f1 f2 hd b0 b1 h fi h0 hp hf1 hf2
    obtain ⟨f1', rfl⟩ : ∃ k, f1 = k + 2 := ⟨f1 - 2, by omega⟩
    obtain ⟨f2', rfl⟩ : ∃ k, f2 = k + 2 := ⟨f2 - 2, by omega⟩
    obtain ⟨z1, z2, s1, s2, s3, s4, s5⟩ := step_sim hF W hE hA hC wd lw dy b0 b1 rl cg lg hsd h fi h0
    have g20 := h.2.2.1.2.2.2.2.2.2
    have n20 : ¬ (20000 : Int32) < nI p := ngt (k := p) (x := 20000) 20000 rfl (by omega) (by omega) (by omega)
    have r1 : fn_X18_callOne_L141 F sh n 337 x0 (f1' + 2) zr = fn_X18_callOne_L141 F sh n 337 x0 (f1' + 1) z1 := by
      show cal (fn_X18_goesOn F sh n zr 337) _ = _
      rw [h.2.1.goes, cal_s, if_neg one0, s1, cal_s]
    have hz2 : Lay sh n z2 ∧ z2.1 88 6 = sl0 := by
      rcases s5 with ⟨o, c, g', ho, e1, e2⟩ | ⟨na', ak', g', a1, a2⟩ | ⟨H', m', ty', fr', nf', na', ak', g', Hc', mc', phi', Rn', cs', cl', cn', a1, a2, a3⟩
      · exact ⟨e2.1, e2.sl⟩
      · obtain ⟨_, _, _, _, _, _, _, _, _, _, _, q1, q2, _⟩ := a2
        exact ⟨q2.1, q2.sl⟩
      · exact ⟨a1.2.2.1.1, a1.2.2.1.2.1.2.2.2.1⟩
    have r2 : fn_X4_run_L134 F sh n 87 (f2' + 2) zc (nI p) = fn_X4_run_L134 F sh n 87 (f2' + 1) z2 (nI p + 1) := by
      show (if (20000 : Int32) < nI p then _ else if ((zc.1 87 15) : Int32) = 0 then _ else _) = _
      rw [if_neg n20, h.2.2.1.2.2.2.1.1, if_neg one0, h.2.2.1.1.2.2 87 1 88 rfl, lnk_s, (b_heap h.2.2.1.1).1, grd_true, lt_t, s2, cal_s, hz2.1.2.2 87 1 88 rfl, lnk_s, lnk_s, (b_heap h.2.2.1.1).1, grd_true, lt_t, h.2.2.1.2.1.2.2.2.1, hz2.2, if_neg hsl, grd_true, lt_t, si_same hz2.2]
    rcases s5 with ⟨o, c, g', ho, e1, e2⟩ | ⟨na', ak', g', a1, a2⟩ | ⟨H', m', ty', fr', nf', na', ak', g', Hc', mc', phi', Rn', cs', cl', cn', a1, a2, a3⟩
    · exact ⟨z1, z2, r1.trans (L141_e e1 (by omega)), r2.trans (L134_e e2 _), b0.trans s3, b1.trans s4, .inl ⟨o, c, g', ho, e1, e2⟩⟩
    · have a2' := a2
      obtain ⟨_, _, _, _, _, _, _, _, _, _, _, q1, q2, _⟩ := a2'
      exact ⟨z1, z2, r1.trans (L141_e q1.1 (by omega)), r2.trans (L134_e q2 _), b0.trans s3, b1.trans s4, .inr ⟨na', ak', g', a1, a2⟩⟩
    · have gl := a3.2.1
      have j0 := a3.2.2 0 h0.1
      obtain ⟨z3, z4, t1, t2, t3, t4, t5⟩ := ih z1 z2 H' m' ty' fr' nf' na' ak' g' Hc' mc' phi' Rn' cs' cl' cn' (p + 1) (f1' + 1) (f2' + 1) (by omega) (b0.trans s3) (b1.trans s4) a1 a2 ⟨Nat.lt_of_lt_of_le h0.1 a3.1, j0.1.trans h0.2.1, j0.2.1.trans h0.2.2⟩ (by omega) (by omega) (by omega)
      refine ⟨z3, z4, r1.trans t1, ?_, t3, t4, ?_⟩
      · rw [r2, nI_1]; exact t2
      · rcases t5 with q | ⟨na2, ak2, g2, q1, q2⟩
        · exact .inl q
        · exact .inr ⟨na2, ak2, g2, (show AkL na ak g na' ak' g' from ⟨a3.1, by omega, a3.2.2⟩).trans q1, q2⟩
end
