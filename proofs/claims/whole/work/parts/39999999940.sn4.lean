/-! BOTH MACHINES SIDE BY SIDE: which operation is which -/
theorem ref_of {ns : Nat} {t p : Ty} (h : STy ns t) (hr : isR t = true) (e : t.tail = p) : ∃ r, (r = 8 ∨ r = 9) ∧ t = r :: p ∧ PT ns p := by
  obtain ⟨r, q, h1, h2, h3⟩ := h.ref hr
  subst h2
  have : q = p := e
  subst this
  exact ⟨r, h1, rfl, h3⟩
section
variable {E : Ev} {F n : Nat} {sh : Nat → Nat × Nat} {pk : Nat → Nat} {kt : Nat} {sl0 : Int32} {lim e : Nat} {zr zc zr' zc' : St} {H : Hp} {m : Nat} {ty : Nat → Nat} {fr : Nat → Fm} {nf na : Nat} {ak : Nat → Ask} {g g' : Nat} {Hc : Hp} {mc : Nat} {phi : Nat → Nat} {Rn : Nat → Option Nat} {cs cl : Nat → Nat → Nat} {cn : Nat → Nat} {ws : Nat → Int64 → Nat → Bool} {u : Nat} {U : Md} {ls : List Ty} {L L' : Lks} {x y : Int64} {p : Nat} {w : Int32}
/-- 11 .. 15 -/
theorem dis_loc (hF : 300 ≤ F) (h : Sm E sh n pk kt sl0 lim 1 zr zc H m ty fr nf na ak g Hc mc phi Rn cs cl cn ws) (hE : EvOk E) (hA : EvA E) (hU : UOk E u U) (fm : FM U ls (fr (nf - 1)) L) {o a : Nat} (ho : 11 ≤ o) (ho2 : o ≤ 15) (ha : a < ls.length) (ha40 : a < 40) (hs : STy U.1.2.2 (ls.getD a [])) (hop : aLocal U ls o a L = .ok L') (hx : x.toInt32 = nI a) : Out E sh n pk kt sl0 lim zr zc fr nf na ak g ws U ls L' (fun i => i = (fr (nf - 1)).1.2.2) (oneD F sh n (nI o) x y zr) (stepD F sh n p w (nI o) (nI a) zc) := by
  rw [stepD_lo ho ho2 ha40 h.2.2.1.t0.1]
  unfold aLocal at hop
  simp only at hop
  by_cases c13 : o = 13
  · subst c13
    rw [if_pos rfl] at hop
    obtain ⟨q, h1, h2⟩ := px_ok hop
    obtain ⟨_, h3, h4⟩ := px_ok h2
    obtain ⟨_, h5, h6⟩ := px_ok h4
    obtain ⟨_, h7, h8⟩ := px_ok h6
    obtain ⟨a1, a2, a3⟩ := take_ok h1
    have n3 := nd_ok h3
    have n7 := nd_ok h7
    cases h8
    rw [a3] at n7 ⊢
    rw [a2] at n3 ⊢
    rw [oneD_13, hx]
    exact sim_13 h fm ha ha40 a1 (by simpa using n3) (fun r => by rw [r] at n7; simpa using n7)
  · rw [if_neg c13] at hop
    obtain ⟨_, h1, h2⟩ := px_ok hop
    have n1 := nd_ok h1
    by_cases c11 : o = 11
    · subst c11
      rw [if_pos rfl] at h2
      obtain ⟨_, h3, h4⟩ := px_ok h2
      obtain ⟨_, h5, h6⟩ := px_ok h4
      rw [oneD_11, hx]
      cases r : isR (ls.getD a []) with
      | true => exact sim_11r hF h fm ha hs r n1 h6
      | false =>
        rw [rO, if_neg (by rw [r]; simp), rI, r, Bool.false_and] at h6
        exact sim_11v hF h hE hA fm ha (hs.pl r) (hU.2.2.2.2.2.2.2 _ (hs.pl r) (nd_ok h3)) n1 h6
    · rw [if_neg c11] at h2
      by_cases c12 : o = 12
      · subst c12
        rw [if_pos rfl] at h2
        obtain ⟨_, h3, h4⟩ := px_ok h2
        obtain ⟨M, h5, h6⟩ := px_ok h4
        have n3 := nd_ok h3
        cases h6
        rw [oneD_12, hx]
        exact sim_12 h fm ha hs n1 (fun r => by rw [r] at n3; simpa using n3) h5
      · rw [if_neg c12] at h2
        obtain ⟨_, h3, h4⟩ := px_ok h2
        obtain ⟨_, h5, h6⟩ := px_ok h4
        have n3 := nd_ok h3
        have pl : PT U.1.2.2 (ls.getD a []) := hs.pl (by simpa using n3)
        have ho4 : o = 14 ∨ o = 15 := by omega
        have S := sim_1415 (F := F) h fm ho4 ha pl n1 h6
        rcases ho4 with q | q <;> subst q
        · rw [oneD_14, hx]; exact S
        · rw [oneD_15, hx]; exact S
/-- 16 .. 20 -/
theorem dis_ref (hF : 300 ≤ F) (h : Sm E sh n pk kt sl0 lim 1 zr zc H m ty fr nf na ak g Hc mc phi Rn cs cl cn ws) (hE : EvOk E) (hA : EvA E) (hU : UOk E u U) (fm : FM U ls (fr (nf - 1)) L) {o a b a0 : Nat} {b1 : Int32} (ho : 16 ≤ o) (ho2 : o ≤ 20) (hab : o = 16 ∨ o = 17 → a < U.1.2.1 ∧ b < (fdsOf U a).length ∧ y.toInt32 = nI b ∧ b1 = nI b) (hb : fn_X5_at F sh n zc p (w + 2) = some (zc, b1)) (hop : aRef U ls o a b L = .ok L') : Out E sh n pk kt sl0 lim zr zc fr nf na ak g ws U ls L' (fun i => i = (fr (nf - 1)).1.2.2) (oneD F sh n (nI o) x y zr) (stepD F sh n p w (nI o) (nI a0) zc) := by
  rw [stepD_re ho ho2 hb]
  unfold aRef at hop
  by_cases c67 : o = 16 ∨ o = 17
  · rw [if_pos c67] at hop
    obtain ⟨q, h1, h2⟩ := px_ok hop
    obtain ⟨a1, a2, a3, a4, a5, a6⟩ := takeR_ok h1
    obtain ⟨e1, e2, e3, e4⟩ := hab c67
    rw [a2, a3] at h2
    rw [a2] at a4 a5 a6
    obtain ⟨r, r1, r2, r3⟩ := ref_of (fm.2.2.1 (L.1.1 - 1) (by omega)).2 a4 (a5 _ rfl)
    have S := sim_1617 hF h hU fm (o := o) (r := r) (a := a) (b := b) c67 a1 r1 (fun q => by
      subst q
      have := a6 rfl
      rw [r2] at this
      exact this) r2 e1 e2 h2
    rw [e4]
    rcases c67 with q | q <;> subst q
    · rw [oneD_16, e3]; exact S
    · rw [oneD_17, e3]; exact S
  · rw [if_neg c67] at hop
    by_cases c18 : o = 18
    · subst c18
      rw [if_pos rfl] at hop
      obtain ⟨q, h1, h2⟩ := px_ok hop
      obtain ⟨_, h3, h4⟩ := px_ok h2
      obtain ⟨a1, a2, a3, a4, a5, a6⟩ := takeR_ok h1
      rw [a2, a3] at h4
      rw [a2] at a4
      obtain ⟨r, r1, r2, r3⟩ := ref_of (fm.2.2.1 (L.1.1 - 1) (by omega)).2 a4 rfl
      rw [oneD_18]
      exact sim_18 hF h hE hA fm a1 r1 r2 r3 (hU.2.2.2.2.2.2.2 _ r3 (by have := nd_ok h3; rw [a2, r2] at this; exact this)) h4
    · rw [if_neg c18] at hop
      by_cases c19 : o = 19
      · subst c19
        rw [if_pos rfl] at hop
        obtain ⟨q, h1, h2⟩ := px_ok hop
        obtain ⟨a1, a2, a3, a4, a5, a6⟩ := takeR_ok h1
        obtain ⟨M, h3, h4⟩ := px_ok h2
        obtain ⟨_, h5, h6⟩ := px_ok h4
        obtain ⟨_, h7, h8⟩ := px_ok h6
        rw [a3] at h3
        rw [a2] at a4 a6 h3 h7
        obtain ⟨t1, t2, t3⟩ := takeT_ok h3
        simp only at t1 t2 t3
        obtain ⟨r, r1, r2, r3⟩ := ref_of (fm.2.2.1 (L.1.1 - 1) (by omega)).2 a4 rfl
        have r9 : r = 9 := by
          have := a6 rfl
          rw [r2] at this
          exact this
        have n7 := nd_ok h7
        have e12 : L.1.1 - 1 - 1 = L.1.1 - 2 := by omega
        rw [e12] at t2 t3
        subst t3
        cases h8
        rw [oneD_19]
        exact sim_19 h hE hA fm (by omega) (by rw [r2, r9]; rfl) t2 r3 n7
      · rw [if_neg c19] at hop
        have c20 : o = 20 := by omega
        subst c20
        obtain ⟨q, h1, h2⟩ := px_ok hop
        obtain ⟨a1, a2, a3, a4, a5, a6⟩ := takeR_ok h1
        rw [a2, a3] at h2
        rw [a2] at a4
        obtain ⟨r, r1, r2, r3⟩ := ref_of (fm.2.2.1 (L.1.1 - 1) (by omega)).2 a4 rfl
        rw [oneD_20]
        exact sim_20 h fm a1 r1 r2 r3 h2
/-- 21, 22 -/
theorem dis_pack (hF : 300 ≤ F) (h : Sm E sh n pk kt sl0 lim 1 zr zc H m ty fr nf na ak g Hc mc phi Rn cs cl cn ws) (hE : EvOk E) (hA : EvA E) (hU : UOk E u U) (fm : FM U ls (fr (nf - 1)) L) {o a ku : Nat} (ho : o = 21 ∨ o = 22) (ha : a < U.1.2.1) (hx : x.toInt32 = nI a) (hop : aPack U o a L = .ok L') (hok : okO sh n ku 16 = true) (hu : ∀ z', FrR zr z' → z'.2.2 337 48 = some ku ∧ fn_X16_identity F sh n z' ku (nI a) = some (z', nI (U.2.2.2.1 a))) (hfd : fn_X16_fieldsOf F sh n zr ku (nI a) = some (zr, nI (fdsOf U a).length)) (hfc : fn_X5_fieldCount F sh n zc p (nI a) = some (zc, nI (fdsOf U a).length)) : Out E sh n pk kt sl0 lim zr zc fr nf na ak g ws U ls L' (fun i => i = (fr (nf - 1)).1.2.2) (oneD F sh n (nI o) x y zr) (stepD F sh n p w (nI o) (nI a) zc) := by
  unfold aPack at hop
  obtain ⟨u1, u2⟩ := hu zr FrR.rfl'
  rcases ho with q | q <;> subst q
  · rw [if_pos rfl] at hop
    obtain ⟨M, h1, h2⟩ := px_ok hop
    rw [oneD_21, hx, stepD_21 hfc]
    exact sim_21 hF h hE hA hU fm ha h1 h2 u1 hok hfd u2
  · rw [if_neg (by decide)] at hop
    obtain ⟨M, h1, h2⟩ := px_ok hop
    obtain ⟨t1, t2, t3⟩ := takeT_ok h1
    rw [t3] at h2
    rw [oneD_22, hx, stepD_22 hfc]
    exact sim_22 hF h hE hA hU fm ha t1 t2 h2 hu hok
end
