/-! BOTH MACHINES SIDE BY SIDE: which operation is which, rows, constants, branches -/
theorem getD_in {l : List Ty} {a : Nat} (h : a < l.length) : l.getD a [] ∈ l := by
  rw [List.getD_eq_getElem?_getD, List.getElem?_eq_getElem h]
  exact List.getElem_mem h
section
variable {E : Ev} {F n : Nat} {sh : Nat → Nat × Nat} {pk : Nat → Nat} {kt : Nat} {sl0 : Int32} {lim e : Nat} {zr zc zr' zc' : St} {H : Hp} {m : Nat} {ty : Nat → Nat} {fr : Nat → Fm} {nf na : Nat} {ak : Nat → Ask} {g g' : Nat} {Hc : Hp} {mc : Nat} {phi : Nat → Nat} {Rn : Nat → Option Nat} {cs cl : Nat → Nat → Nat} {cn : Nat → Nat} {ws : Nat → Int64 → Nat → Bool} {u : Nat} {U : Md} {ls : List Ty} {L L' : Lks} {x y : Int64} {p : Nat} {w : Int32} {R C : Option (St × Unit)}
theorem Out.mono {P Q : Nat → Prop} (o : Out E sh n pk kt sl0 lim zr zc fr nf na ak g ws U ls L' P R C) (h : ∀ i, P i → Q i) : Out E sh n pk kt sl0 lim zr zc fr nf na ak g ws U ls L' Q R C := by
  obtain ⟨z1, z2, a1, a2, a3, a4, a5⟩ := o
  refine ⟨z1, z2, a1, a2, a3, a4, ?_⟩
  rcases a5 with w | ⟨H', m', ty', x, na', ak', g', Hc', mc', phi', Rn', cs', cl', cn', b1, bA, b2, b3, b4, b5⟩
  · exact .inl w
  · exact .inr ⟨H', m', ty', x, na', ak', g', Hc', mc', phi', Rn', cs', cl', cn', b1, bA, b2, b3, h _ b4, b5⟩
theorem onV59 (hL : Lay sh n zr) {b : Int32} : fn_X18_onVector F sh n zr 337 (nI 59) b = fn_X18_digest F sh n zr 337 := by
  unfold fn_X18_onVector
  rw [if_neg (by decide), if_pos (by rfl), (b_model hL).1, grd_true, cal_u]
/-- 52 .. 59 -/
theorem dis_vec (hF : 300 ≤ F) (h : Sm E sh n pk kt sl0 lim 1 zr zc H m ty fr nf na ak g Hc mc phi Rn cs cl cn ws) (hE : EvOk E) (hA : EvA E) (hU : UOk E u U) (fm : FM U ls (fr (nf - 1)) L) {o a b a0 : Nat} {b1 : Int32} (ho : 52 ≤ o) (ho2 : o ≤ 59) (ha : o ≠ 59 → a < (elsOf U).length) (hb52 : o = 52 → y.toInt32 = nI b ∧ b1 = nI b) (hb : fn_X5_at F sh n zc p (w + 2) = some (zc, b1)) (hop : aVec U ls o a b L = .ok L') : Out E sh n pk kt sl0 lim zr zc fr nf na ak g ws U ls L' (fun i => i = (fr (nf - 1)).1.2.2) (oneD F sh n (nI o) x y zr) (stepD F sh n p w (nI o) (nI a0) zc) := by
  have e12 : L.1.1 - 1 - 1 = L.1.1 - 2 := by omega
  have e13 : L.1.1 - 2 - 1 = L.1.1 - 3 := by omega
  unfold aVec at hop
  by_cases c59 : o = 59
  · subst c59
    rw [if_pos rfl] at hop
    obtain ⟨M, h1, h2⟩ := px_ok hop
    obtain ⟨t1, t2, t3⟩ := takeT_ok h1
    subst t3
    rw [oneD_59, stepD_59]
    exact sim_59 hF h hE hA hU fm t1 t2 h2 (onV59 h.2.1.1)
  · rw [if_neg c59] at hop
    simp only at hop
    have eT := getD_in (ha c59)
    generalize (elsOf U).getD a [] = T at *
    rw [stepD_li ho (by omega) hb]
    by_cases c52 : o = 52
    · subst c52
      rw [if_pos rfl] at hop
      obtain ⟨M, h1, h2⟩ := px_ok hop
      obtain ⟨y1, y2⟩ := hb52 rfl
      rw [oneD_52, y1, y2]
      exact sim_52 hF h hE hA hU fm eT h1 h2
    · rw [if_neg c52] at hop
      obtain ⟨L1, h1, k1⟩ := px_ok hop
      obtain ⟨L2, h2, k2⟩ := px_ok k1
      obtain ⟨L3, h3, k3⟩ := px_ok k2
      obtain ⟨q, h4, k4⟩ := px_ok k3
      obtain ⟨_, h5, k5⟩ := px_ok k4
      have n5 := nd_ok h5
      obtain ⟨a1, a2, a3, a4, a5, a6⟩ := takeR_ok h4
      have st : ∀ k, k < L.1.1 → STy U.1.2.2 (L.1.2 k).1 := fun k hk => (fm.2.2.1 k hk).2
      have : o = 53 ∨ o = 54 ∨ o = 55 ∨ o = 56 ∨ o = 57 ∨ o = 58 := by omega
      rcases this with c | c | c | c | c | c <;> subst c
      · rw [if_neg (by decide)] at h1 h2 h3
        cases h1; cases h2; cases h3
        rw [if_pos rfl, a3] at k5
        rw [a2] at a4 a5
        obtain ⟨r, r1, r2, r3⟩ := ref_of (st _ (by omega)) a4 (a5 _ rfl)
        rw [oneD_53]
        exact sim_53 hF h hE hU fm a1 r1 r2 eT k5
      · rw [if_pos (by decide)] at h1
        rw [if_neg (by decide)] at h2 h3
        cases h2; cases h3
        obtain ⟨t1, t2, t3⟩ := takeT_ok h1
        subst t3
        simp only at a1 a2 a3
        rw [e12] at a2 a3
        rw [if_neg (by decide), if_neg (by decide), if_pos (by decide), a2, a3] at k5
        rw [a2] at a4 a5
        obtain ⟨r, r1, r2, r3⟩ := ref_of (st _ (by omega)) a4 (a5 _ rfl)
        rw [oneD_54]
        exact sim_5455 hF h hA hU fm (o := 54) (.inl rfl) (by omega) r1 (fun q => absurd q (by decide)) t2 r2 eT k5
      · rw [if_pos (by decide)] at h1
        rw [if_neg (by decide)] at h2 h3
        cases h2; cases h3
        obtain ⟨t1, t2, t3⟩ := takeT_ok h1
        subst t3
        simp only at a1 a2 a3
        rw [e12] at a2 a3
        rw [if_neg (by decide), if_neg (by decide), if_pos (by decide), a2, a3] at k5
        rw [a2] at a4 a5 a6
        obtain ⟨r, r1, r2, r3⟩ := ref_of (st _ (by omega)) a4 (a5 _ rfl)
        have r9 : r = 9 := by
          have := a6 (by decide)
          rw [r2] at this
          exact this
        rw [oneD_55]
        exact sim_5455 hF h hA hU fm (o := 55) (.inr rfl) (by omega) r1 (fun _ => r9) t2 r2 eT k5
      · rw [if_neg (by decide)] at h1 h2
        rw [if_pos rfl] at h3
        cases h1; cases h2
        obtain ⟨t1, t2, t3⟩ := takeT_ok h3
        subst t3
        simp only at a1 a2 a3
        rw [e12] at a2 a3
        rw [if_neg (by decide), if_neg (by decide), if_neg (by decide), a3] at k5
        rw [a2, a3] at n5
        rw [a2] at a4 a5 a6
        cases k5
        obtain ⟨r, r1, r2, r3⟩ := ref_of (st _ (by omega)) a4 (a5 _ rfl)
        have r9 : r = 9 := by
          have := a6 (by decide)
          rw [r2] at this
          exact this
        rw [oneD_56]
        exact sim_56 hF h hE hA hU fm (by omega) t2 (by rw [r2, r9]) eT (by simpa using n5)
      · rw [if_neg (by decide)] at h1 h2 h3
        cases h1; cases h2; cases h3
        rw [if_neg (by decide), if_pos rfl, a3] at k5
        rw [a2, a3] at n5
        rw [a2] at a4 a5 a6
        obtain ⟨r, r1, r2, r3⟩ := ref_of (st _ (by omega)) a4 (a5 _ rfl)
        have r9 : r = 9 := by
          have := a6 (by decide)
          rw [r2] at this
          exact this
        rw [oneD_57]
        exact sim_57 hF h hE hA hU fm a1 (by rw [r2, r9]) eT (by simpa using n5) k5
      · rw [if_pos (by decide)] at h1
        rw [if_pos rfl] at h2
        rw [if_neg (by decide)] at h3
        cases h3
        obtain ⟨t1, t2, t3⟩ := takeT_ok h1
        subst t3
        obtain ⟨s1, s2, s3⟩ := takeT_ok h2
        subst s3
        simp only at s1 s2 a1 a2 a3
        rw [e12] at s2
        rw [e12] at a1 a2 a3
        rw [e13] at a2 a3
        rw [if_neg (by decide), if_neg (by decide), if_neg (by decide), a3] at k5
        rw [a2, a3] at n5
        rw [a2] at a4 a5 a6
        cases k5
        obtain ⟨r, r1, r2, r3⟩ := ref_of (st _ (by omega)) a4 (a5 _ rfl)
        have r9 : r = 9 := by
          have := a6 (by decide)
          rw [r2] at this
          exact this
        rw [oneD_58]
        exact sim_58 hF h hE hA hU fm (by omega) t2 s2 (by rw [r2, r9]) eT (by simpa using n5)
/-- 0, 2, 3, 4, 35, 45 -/
theorem dis_br (h : Sm E sh n pk kt sl0 lim 1 zr zc H m ty fr nf na ak g Hc mc phi Rn cs cl cn ws) (fm : FM U ls (fr (nf - 1)) L) {o f a b a0 to : Nat} {r : Int64} (ho : o = 0 ∨ o = 2 ∨ o = 3 ∨ o = 4 ∨ o = 35 ∨ o = 45) (hls : ls = locOf U f) (hn : fn_X5_numberAt F sh n zc p (w + 1) 2 = some (zc, r)) (hto : 2 ≤ o → o < 5 → r.toInt32 = nI to ∧ x.toInt32 = nI to) (hop : aOp U f o a b L = .ok L') : Out E sh n pk kt sl0 lim zr zc fr nf na ak g ws U ls L' (fun i => (o ≠ 2 ∧ i = (fr (nf - 1)).1.2.2) ∨ (2 ≤ o ∧ o < 5 ∧ i = to)) (oneD F sh n (nI o) x y zr) (stepD F sh n p w (nI o) (nI a0) zc) := by
  have S : o ≠ 35 → stepD F sh n p w (nI o) (nI a0) zc = fn_X4_steer F sh n zc 87 (nI o) r.toInt32 := fun q => by rw [stepD_st (by omega), hn, cal_s]
  unfold aOp at hop
  simp only at hop
  rcases ho with c | c | c | c | c | c <;> subst c
  · rw [if_pos rfl] at hop
    obtain ⟨q, h1, h2⟩ := px_ok hop
    obtain ⟨_, h3, h4⟩ := px_ok h2
    obtain ⟨a1, a2, a3⟩ := take_ok h1
    cases h4
    rw [a3, S (by decide)]
    exact (sim_0 h fm a1).mono (fun i hi => .inl ⟨by decide, hi⟩)
  · rw [if_neg (by decide), if_neg (by decide), if_pos (by decide)] at hop
    obtain ⟨M, h1, h2⟩ := px_ok hop
    obtain ⟨_, h3, h4⟩ := px_ok h2
    rw [if_neg (by decide)] at h1
    cases h1; cases h4
    obtain ⟨y1, y2⟩ := hto (by decide) (by decide)
    rw [S (by decide), oneD_2, y1, y2]
    exact (sim_2 h fm).mono (fun i hi => .inr ⟨by decide, by decide, hi⟩)
  · rw [if_neg (by decide), if_neg (by decide), if_pos (by decide)] at hop
    obtain ⟨M, h1, h2⟩ := px_ok hop
    obtain ⟨_, h3, h4⟩ := px_ok h2
    rw [if_pos (by decide)] at h1
    obtain ⟨t1, t2, t3⟩ := takeT_ok h1
    cases h4
    subst t3
    obtain ⟨y1, y2⟩ := hto (by decide) (by decide)
    rw [S (by decide), oneD_3, y1, y2]
    exact (sim_34 h fm (.inl rfl) t1 t2).mono (fun i hi => hi.elim (fun q => .inr ⟨by decide, by decide, q⟩) (fun q => .inl ⟨by decide, q⟩))
  · rw [if_neg (by decide), if_neg (by decide), if_pos (by decide)] at hop
    obtain ⟨M, h1, h2⟩ := px_ok hop
    obtain ⟨_, h3, h4⟩ := px_ok h2
    rw [if_pos (by decide)] at h1
    obtain ⟨t1, t2, t3⟩ := takeT_ok h1
    cases h4
    subst t3
    obtain ⟨y1, y2⟩ := hto (by decide) (by decide)
    rw [S (by decide), oneD_4, y1, y2]
    exact (sim_34 h fm (.inr rfl) t1 t2).mono (fun i hi => hi.elim (fun q => .inr ⟨by decide, by decide, q⟩) (fun q => .inl ⟨by decide, q⟩))
  · have hop' : (.ok L : Px Lks) = .ok L' := hop
    cases hop'
    exact (sim_35 h fm oneD_35 ((stepD_se (.inr (.inl rfl))).trans set35)).mono (fun i hi => .inl ⟨by decide, hi⟩)
  · have hop' : lTakeT [3] L = .ok L' := hop
    obtain ⟨t1, t2, t3⟩ := takeT_ok hop'
    rw [S (by decide)]
    exact sim_45 h fm t1 t2
end
