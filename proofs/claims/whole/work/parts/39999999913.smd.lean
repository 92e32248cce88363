/-! BOTH MACHINES SIDE BY SIDE: numbers -/
theorem LTm_num {E : Ev} {k : Nat} {x y : Int64} (hk : k = 2 ∨ k = 3 ∨ k = 4) (h : V2 x y < 2 ^ bt k) : LTm E k (k, x, y, []) [] := by
  rcases hk with e | e | e <;> subst e
  · obtain ⟨h1, h2⟩ := V2_8.mp h
    exact .inr (.inl ⟨rfl, rfl, h1, ⟨N y, h2, (lN_N y).symm⟩, rfl⟩)
  · have h1 := V2_64.mp h
    exact .inr (.inr (.inl ⟨.inl rfl, rfl, h1, rfl⟩))
  · exact .inr (.inr (.inr (.inl ⟨rfl, rfl, rfl⟩)))
theorem LTm.v2 {E : Ev} {k : Nat} {x : Nd} {ts : List Nat} (hk : k = 2 ∨ k = 3 ∨ k = 4) (h : LTm E k x ts) : V2 x.2.1 x.2.2.1 < 2 ^ bt k := by
  rcases hk with e | e | e <;> subst e
  · rcases h with h | h | h | h | h | h | h | h
    · omega
    · obtain ⟨_, _, h1, ⟨n, h2, h3⟩, _⟩ := h
      refine V2_8.mpr ⟨h1, ?_⟩
      rw [h3, N_lN (by omega)]; exact h2
    all_goals omega
  · rcases h with h | h | h | h | h | h | h | h
    · omega
    · omega
    · exact V2_64.mpr h.2.2.1
    all_goals omega
  · exact V2_lt _ _
theorem LTm_tr {E : Ev} {y : Int64} (h : y = 0 ∨ y = 1) : LTm E 1 (1, 0, y, []) [] := .inl ⟨rfl, rfl, rfl, h, rfl⟩
theorem LTm.tr {E : Ev} {x : Nd} {ts : List Nat} (h : LTm E 1 x ts) : x.1 = 1 ∧ x.2.1 = 0 ∧ (x.2.2.1 = 0 ∨ x.2.2.1 = 1) := by
  rcases h with h | h | h | h | h | h | h | h
  · exact ⟨h.2.1, h.2.2.1, h.2.2.2.1⟩
  all_goals omega
theorem SMt_num {id : Nat → Nat} {k v ns : Nat} (h1 : 1 ≤ k) (h5 : k ≤ 5) : SMt id (v, 0, k, 0, false) ([k], 0, false) ∧ STy ns [k] ∧ PT ns [k] ∧ isR [k] = false := by
  have p : PT ns [k] := ⟨h1, h5⟩
  have r := p.hd.2
  refine ⟨⟨by rw [sR_p p], rfl, fun q => absurd (r.symm.trans q) (by decide)⟩, .inl p, p, r⟩
section
variable {E : Ev} {F n : Nat} {sh : Nat → Nat × Nat} {pk : Nat → Nat} {kt : Nat} {sl0 : Int32} {lim e : Nat} {zr zc zr' zc' : St} {H : Hp} {m : Nat} {ty : Nat → Nat} {fr : Nat → Fm} {nf na : Nat} {ak : Nat → Ask} {g g' : Nat} {Hc : Hp} {mc : Nat} {phi : Nat → Nat} {Rn : Nat → Option Nat} {cs cl : Nat → Nat → Nat} {cn : Nat → Nat} {ws : Nat → Int64 → Nat → Bool} {u : Nat} {U : Md} {ls : List Ty} {L L' : Lks} {R C : Option (St × Unit)}
theorem Out.num (h : Sm E sh n pk kt sl0 lim 1 zr zc H m ty fr nf na ak g Hc mc phi Rn cs cl cn ws) (hE : EvOk E) (hU : UOk E u U) (fm : FM U ls (fr (nf - 1)) L) {c k : Nat} {x y : Int64} (hc : c ≤ L.1.1) (hk : 1 ≤ k) (hk5 : k ≤ 5) (ht : LTm E k (k, x, y, []) []) (hp : lPush ([k], 0, false) ((L.1.1 - c, L.1.2), L.2) = .ok L') (hg : g ≤ g') (er : R = some (zr', ())) (ec : C = some (zc', ())) (rm : RM sh n zr' (upH H m (k, x, y, [])) (m + 1) (setF fr (nf - 1) (pshV (setH (fr (nf - 1)) ((fr (nf - 1)).2.2.1.1 - c)) (m, 0, k, 0, false))) nf na ak g' lim) (cm : CM sh n zc' pk kt (upH Hc mc (k, x, y, [])) (mc + 1) sl0 (setF fr (nf - 1) (pshV (setH (fr (nf - 1)) ((fr (nf - 1)).2.2.1.1 - c)) (m, 0, k, 0, false))) (up2 cs (nf - 1) ((fr (nf - 1)).2.2.1.1 - c) mc) cl nf g' lim) (f1 : FrR zr zr') (f2 : FrD zc zc') : Out E sh n pk kt sl0 lim zr zc fr nf na ak g ws U ls L' (fun i => i = (fr (nf - 1)).1.2.2) R C := by
  refine ⟨zr', zc', er, ec, f1, f2.x, .inr ⟨_, _, _, _, _, _, _, _, _, _, _, _, _, _, h.num hE (by rw [fm.1]; exact hc) hk hk5 ht (hU.1 k hk hk5) hg rm cm (h.2.2.2.1.fd f2), AkL.same hg, rfl, rfl, rfl, ?_⟩⟩
  obtain ⟨s1, s2, _⟩ := SMt_num (id := U.2.2.2.1) (v := m) (ns := U.1.2.2) hk hk5
  exact (fm.drop c).psh hp s1 s2
theorem Out.end (o : Nat) (c : Int64) (g1 : Nat) (ho : o = 1 ∨ o = 2) (er : R = some (zr', ())) (ec : C = some (zc', ())) (re : RE sh n zr' o c g1) (ce : CE sh n zc' o c g1 sl0) (f1 : FrR zr zr') (f2 : FrX zc zc') {P : Nat → Prop} : Out E sh n pk kt sl0 lim zr zc fr nf na ak g ws U ls L' P R C := ⟨zr', zc', er, ec, f1, f2, .inl ⟨o, c, g1, ho, re, ce⟩⟩
/-- 5 .. 10, 46 -/
theorem sim_const (h : Sm E sh n pk kt sl0 lim 1 zr zc H m ty fr nf na ak g Hc mc phi Rn cs cl cn ws) (hE : EvOk E) (hU : UOk E u U) (fm : FM U ls (fr (nf - 1)) L) {o p k : Nat} {w a0 : Int32} {x y x' y' : Int64} (ho : (5 ≤ o ∧ o ≤ 10) ∨ o = 46) (ek : k = if o = 5 then 2 else if o = 6 then 3 else if o = 7 then 4 else if o < 10 then 1 else 5) (ex : x' = if o = 7 then x else 0) (ey : y' = if o = 7 then y else if o = 8 then 1 else if o = 9 then 0 else if o = 46 then zr.2.1 337 24 else x) (hb : o = 5 → ∃ b : Nat, b < 256 ∧ x = lN b) (op : okO sh n p 5 = true) (hk : (o = 5 ∧ k = 2 ∧ x' = 0 ∧ ∃ b : Nat, b < 256 ∧ y' = lN b ∧ fn_X5_at F sh n zc p (w + 1) = some (zc, nI b)) ∨ (o = 6 ∧ k = 3 ∧ x' = 0 ∧ fn_X5_numberAt F sh n zc p (w + 1) 8 = some (zc, y')) ∨ (o = 7 ∧ k = 4 ∧ fn_X5_numberAt F sh n zc p (w + 1) 8 = some (zc, x') ∧ fn_X5_numberAt F sh n zc p (w + 1 + 8) 8 = some (zc, y')) ∨ (o = 8 ∧ k = 1 ∧ x' = 0 ∧ y' = 1) ∨ (o = 9 ∧ k = 1 ∧ x' = 0 ∧ y' = 0) ∨ (o = 10 ∧ k = 5 ∧ x' = 0 ∧ fn_X5_numberAt F sh n zc p (w + 1) 8 = some (zc, y')) ∨ (o = 46 ∧ k = 5 ∧ x' = 0 ∧ y' = zc.2.1 kt 1)) (hp : lPush ([k], 0, false) L = .ok L') : Out E sh n pk kt sl0 lim zr zc fr nf na ak g ws U ls L' (fun i => i = (fr (nf - 1)).1.2.2) (fn_X18_constant F sh n zr 337 (nI o) x y) (fn_X4_set F sh n zc 87 (nI o) p (w + 1)) := by
  have h64 : (fr (nf - 1)).2.2.1.1 < 64 := by have := (push_ok hp).1; rw [fm.1]; exact this
  obtain ⟨r1, r2⟩ := h.rooms
  obtain ⟨z1, a1, a2, a3⟩ := h.2.1.const (F := F) (a := x) (b := y) ho (by omega) h64
  rw [← ek, ← ex, ← ey] at a2
  obtain ⟨z2, b1, b2, b3⟩ := h.2.2.1.set1 (F := F) h64 (by omega) op hk (m, 0, k, 0, false)
  have k15 : 1 ≤ k ∧ k ≤ 5 := by
    rcases hk with ⟨_, q, _⟩ | ⟨_, q, _⟩ | ⟨_, q, _⟩ | ⟨_, q, _⟩ | ⟨_, q, _⟩ | ⟨_, q, _⟩ | ⟨_, q, _⟩ <;> omega
  have lt : LTm E k (k, x', y', []) [] := by
    rcases hk with ⟨_, q, q1, b, q2, q3, _⟩ | ⟨_, q, q1, _⟩ | ⟨_, q, _⟩ | ⟨_, q, q1, q2⟩ | ⟨_, q, q1, q2⟩ | ⟨_, q, q1, _⟩ | ⟨_, q, q1, _⟩ <;> subst q
    · exact .inr (.inl ⟨rfl, rfl, q1, ⟨b, q2, q3⟩, rfl⟩)
    · exact .inr (.inr (.inl ⟨.inl rfl, rfl, q1, rfl⟩))
    · exact .inr (.inr (.inr (.inl ⟨rfl, rfl, rfl⟩)))
    · rw [q1]; exact LTm_tr (.inr q2)
    · rw [q1]; exact LTm_tr (.inl q2)
    · exact .inr (.inr (.inl ⟨.inr rfl, rfl, q1, rfl⟩))
    · exact .inr (.inr (.inl ⟨.inr rfl, rfl, q1, rfl⟩))
  have e0 : (fr (nf - 1)) = setH (fr (nf - 1)) ((fr (nf - 1)).2.2.1.1 - 0) := rfl
  exact Out.num h hE hU fm (c := 0) (by omega) k15.1 k15.2 lt hp (Nat.le_refl _) a1 b1 a2 b2 a3 b3.d
/-- 24 .. 28 -/
theorem sim_arith (hF : 300 ≤ F) (W : ∀ z, Lay sh n z → WM sh n z.2.2 368 369 370 371) (h : Sm E sh n pk kt sl0 lim 1 zr zc H m ty fr nf na ak g Hc mc phi Rn cs cl cn ws) (hE : EvOk E) (hU : UOk E u U) (fm : FM U ls (fr (nf - 1)) L) {o k : Nat} (ho : 24 ≤ o) (ho2 : o < 29) (hk : k = 2 ∨ k = 3 ∨ k = 4) (h2 : 2 ≤ L.1.1) (t1 : (L.1.2 (L.1.1 - 1)).1 = [k]) (t2 : (L.1.2 (L.1.1 - 2)).1 = [k]) (hp : lPush ([k], 0, false) ((L.1.1 - 2, L.1.2), L.2) = .ok L') : Out E sh n pk kt sl0 lim zr zc fr nf na ak g ws U ls L' (fun i => i = (fr (nf - 1)).1.2.2) (fn_X18_reckon F sh n zr 337 (nI o)) (fn_X4_reckon F sh n zc 87 (nI o)) := by
  obtain ⟨r1, r2⟩ := h.rooms
  have hh := fm.1
  have pk' : PT U.1.2.2 [k] := ⟨by omega, by omega⟩
  obtain ⟨b0, b1, b2, b3, b4⟩ := h.pl (k := (fr (nf - 1)).2.2.1.1 - 1) (by omega) (by rw [hh]; exact (fm.2.2.1 _ (by omega)).1) (by rw [t1]; exact pk')
  obtain ⟨a0, a1, a2, a3, a4⟩ := h.pl (k := (fr (nf - 1)).2.2.1.1 - 2) (by omega) (by rw [hh]; exact (fm.2.2.1 _ (by omega)).1) (by rw [t2]; exact pk')
  rw [t1] at b3
  rw [t2] at a3
  obtain ⟨pa1, pa2, pa3, pa4, pa5⟩ := h.prim a2 a3 (by show 1 ≤ k; omega) (by show k ≤ 5; omega)
  obtain ⟨pb1, pb2, pb3, pb4, pb5⟩ := h.prim b2 b3 (by show 1 ≤ k; omega) (by show k ≤ 5; omega)
  have sk : sT U.2.2.2.1 [k] = k := rfl
  rw [sk] at pa1 pa2 pb1 pb2
  have kbe := kb_nz hk
  have CA := h.2.2.1.arith (F := F) hF (by omega) a1 b1 (by rw [pa2]; exact hk) (by rw [pa2, pb2]) ho ho2 (by omega) (m, 0, k, 0, false)
  rw [pa2, pa3, pa4, pb3, pb4] at CA
  rcases h.2.1.arith (F := F) (by omega) W (by omega) h.h64 b0 a0 rfl rfl a2 (by rw [pa1, pb1]) ho ho2 (by omega) (t := k) with ⟨X, x, y, q1, q2, q3, z1, q4, q5, q6⟩ | ⟨q1, z1, q2, q3, q4⟩
  · rw [pa1, kbe.2] at q2
    rw [pa1] at q5
    obtain ⟨z2, c1, c2, c3⟩ := CA.1 X x y q1 q2 q3
    exact Out.num h hE hU fm (c := 2) h2 (by omega) (by omega) (LTm_num hk (by rw [q3]; exact q2)) hp (Nat.le_refl _) q4 c1 q5 c2 q6 c3
  · rw [pa1, kbe.2] at q1
    obtain ⟨z2, c1, c2, c3⟩ := CA.2 q1
    exact Out.end 2 1 g (.inr rfl) q2 c1 q3 c2 q4 c3.x
end
