/-! BOTH MACHINES SIDE BY SIDE: which operation is which, numbers and the rest -/
theorem isN_k {t : Ty} (h : isN t = true) : ∃ k, (k = 2 ∨ k = 3 ∨ k = 4) ∧ t = [k] := by
  unfold isN at h
  simp only [Bool.or_eq_true, beq_iff_eq] at h
  rcases h with (h | h) | h
  · exact ⟨2, .inl rfl, h⟩
  · exact ⟨3, .inr (.inl rfl), h⟩
  · exact ⟨4, .inr (.inr rfl), h⟩
section
variable {E : Ev} {F n : Nat} {sh : Nat → Nat × Nat} {pk : Nat → Nat} {kt : Nat} {sl0 : Int32} {lim e : Nat} {zr zc zr' zc' : St} {H : Hp} {m : Nat} {ty : Nat → Nat} {fr : Nat → Fm} {nf na : Nat} {ak : Nat → Ask} {g g' : Nat} {Hc : Hp} {mc : Nat} {phi : Nat → Nat} {Rn : Nat → Option Nat} {cs cl : Nat → Nat → Nat} {cn : Nat → Nat} {ws : Nat → Int64 → Nat → Bool} {u : Nat} {U : Md} {ls : List Ty} {L L' : Lks} {x y : Int64} {p : Nat} {w : Int32}
variable {SF : Nat → List Nat} {sd : Int64} {nc nr nrc : Nat} {ac acC : Nat → Int64 × Int64 × Int64} {rs : Nat → Int64 × Nat × Hp × Nat} {so : Nat → Option Rsc}
/-- 24 .. 44 -/
theorem dis_num (hF : 300 ≤ F) (W : ∀ z, Lay sh n z → WM sh n z.2.2 368 369 370 371) (h : Sm E sh n pk kt sl0 lim 1 zr zc H m ty fr nf na ak g Hc mc phi Rn cs cl cn ws) (hE : EvOk E) (hA : EvA E) (hU : UOk E u U) (fm : FM U ls (fr (nf - 1)) L) {o a0 : Nat} (ho : 24 ≤ o) (ho2 : o ≤ 44) (h35 : o ≠ 35) (hop : aNum U o L = .ok L') : Out E sh n pk kt sl0 lim zr zc fr nf na ak g ws U ls L' (fun i => i = (fr (nf - 1)).1.2.2) (oneD F sh n (nI o) x y zr) (stepD F sh n p w (nI o) (nI a0) zc) := by
  rw [stepD_rk ho ho2 h35]
  have e12 : L.1.1 - 1 - 1 = L.1.1 - 2 := by omega
  unfold aNum at hop
  by_cases c32 : o < 32
  · rw [if_pos c32] at hop
    obtain ⟨q, h1, h2⟩ := px_ok hop
    obtain ⟨_, h3, h4⟩ := px_ok h2
    obtain ⟨M, h5, h6⟩ := px_ok h4
    obtain ⟨a1, a2, a3⟩ := take_ok h1
    have n3 := nd_ok h3
    rw [a3] at h5
    rw [a2] at h5 h6 n3
    obtain ⟨t1, t2, t3⟩ := takeT_ok h5
    simp only at t1 t2 t3
    rw [e12] at t2 t3
    subst t3
    by_cases c29 : o < 29
    · have nd : isN (L.1.2 (L.1.1 - 1)).1 = true := by
        rw [Bool.or_eq_true] at n3
        rcases n3 with r | r
        · exact r
        · simp only [Bool.and_eq_true, decide_eq_true_eq] at r; omega
      obtain ⟨k, k1, k2⟩ := isN_k nd
      rw [k2] at h6 t2
      have S := sim_arith hF W h hE hU fm (o := o) ho c29 k1 (by omega) k2 t2 h6
      have : o = 24 ∨ o = 25 ∨ o = 26 ∨ o = 27 ∨ o = 28 := by omega
      rcases this with q | q | q | q | q <;> subst q
      · rw [oneD_24]; exact S
      · rw [oneD_25]; exact S
      · rw [oneD_26]; exact S
      · rw [oneD_27]; exact S
      · rw [oneD_28]; exact S
    · have nd : ∃ k, (1 ≤ k ∧ k ≤ 4) ∧ (L.1.2 (L.1.1 - 1)).1 = [k] := by
        rw [Bool.or_eq_true] at n3
        rcases n3 with r | r
        · obtain ⟨k, k1, k2⟩ := isN_k r
          exact ⟨k, by omega, k2⟩
        · simp only [Bool.and_eq_true, beq_iff_eq] at r
          exact ⟨1, by omega, r.2⟩
      obtain ⟨k, k1, k2⟩ := nd
      rw [k2] at h6 t2
      have S := sim_bits (F := F) h hE hU fm (o := o) (by omega) k1 (by omega) k2 t2 h6
      have : o = 29 ∨ o = 30 ∨ o = 31 := by omega
      rcases this with q | q | q <;> subst q
      · rw [oneD_29]; exact S
      · rw [oneD_30]; exact S
      · rw [oneD_31]; exact S
  · rw [if_neg c32] at hop
    by_cases c34 : o < 34
    · rw [if_pos c34] at hop
      obtain ⟨M, h1, h2⟩ := px_ok hop
      obtain ⟨t1, t2, t3⟩ := takeT_ok h1
      subst t3
      obtain ⟨q, h3, h4⟩ := px_ok h2
      obtain ⟨_, h5, h6⟩ := px_ok h4
      obtain ⟨a1, a2, a3⟩ := take_ok h3
      simp only at a1 a2 a3
      rw [e12] at a2 a3
      have n5 := nd_ok h5
      rw [a2] at n5 h6
      rw [a3] at h6
      obtain ⟨k, k1, k2⟩ := isN_k n5
      rw [k2] at h6
      have : o = 32 ∨ o = 33 := by omega
      rcases this with q | q <;> subst q
      · rw [oneD_32]
        exact sim_shift hF h hE hU fm true k1 (by omega) t2 k2 h6
      · rw [oneD_33]
        exact sim_shift hF h hE hU fm false k1 (by omega) t2 k2 h6
    · rw [if_neg c34] at hop
      by_cases d34 : o = 34
      · subst d34
        rw [if_pos rfl] at hop
        obtain ⟨M, h1, h2⟩ := px_ok hop
        obtain ⟨t1, t2, t3⟩ := takeT_ok h1
        subst t3
        exact sim_n h hE hU fm t1 t2 h2
      · rw [if_neg d34] at hop
        by_cases c38 : o < 38
        · rw [if_pos c38] at hop
          obtain ⟨q, h1, h2⟩ := px_ok hop
          obtain ⟨_, h3, h4⟩ := px_ok h2
          obtain ⟨M, h5, h6⟩ := px_ok h4
          obtain ⟨_, h7, h8⟩ := px_ok h6
          obtain ⟨a1, a2, a3⟩ := take_ok h1
          have n3 := nd_ok h3
          rw [a3] at h5
          rw [a2] at h5 n3
          obtain ⟨t1, t2, t3⟩ := takeT_ok h5
          simp only at t1 t2 t3
          rw [e12] at t2 t3
          subst t3
          have S := sim_like hF h hE hA hU fm (o := o) (by omega) (by omega) (by simpa using n3) t2 h8
          have : o = 36 ∨ o = 37 := by omega
          rcases this with q | q <;> subst q
          · rw [oneD_36]; exact S
          · rw [oneD_37]; exact S
        · rw [if_neg c38] at hop
          by_cases c42 : o < 42
          · rw [if_pos c42] at hop
            obtain ⟨q, h1, h2⟩ := px_ok hop
            obtain ⟨_, h3, h4⟩ := px_ok h2
            obtain ⟨M, h5, h6⟩ := px_ok h4
            obtain ⟨a1, a2, a3⟩ := take_ok h1
            have n3 := nd_ok h3
            rw [a3] at h5
            rw [a2] at h5 n3
            obtain ⟨t1, t2, t3⟩ := takeT_ok h5
            simp only at t1 t2 t3
            rw [e12] at t2 t3
            subst t3
            obtain ⟨k, k1, k2⟩ := isN_k n3
            rw [k2] at t2
            have S := sim_order (F := F) h hE hU fm (o := o) (by omega) (by omega) k1 (by omega) k2 t2 h6
            have : o = 38 ∨ o = 39 ∨ o = 40 ∨ o = 41 := by omega
            rcases this with q | q | q | q <;> subst q
            · rw [oneD_38]; exact S
            · rw [oneD_39]; exact S
            · rw [oneD_40]; exact S
            · rw [oneD_41]; exact S
          · rw [if_neg c42] at hop
            obtain ⟨q, h1, h2⟩ := px_ok hop
            obtain ⟨_, h3, h4⟩ := px_ok h2
            obtain ⟨a1, a2, a3⟩ := take_ok h1
            have n3 := nd_ok h3
            rw [a2] at n3
            rw [a3] at h4
            obtain ⟨k, k1, k2⟩ := isN_k n3
            have : o = 42 ∨ o = 43 ∨ o = 44 := by omega
            rcases this with q | q | q <;> subst q
            · rw [oneD_42]; exact sim_conv (F := F) h hE hU fm (k := 2) (by omega) k1 a1 k2 h4
            · rw [oneD_43]; exact sim_conv (F := F) h hE hU fm (k := 3) (by omega) k1 a1 k2 h4
            · rw [oneD_44]; exact sim_conv (F := F) h hE hU fm (k := 4) (by omega) k1 a1 k2 h4
/-- 47 .. 51 -/
theorem dis_res (hF : 300 ≤ F) (h : Sm E sh n pk kt sl0 lim 1 zr zc H m ty fr nf na ak g Hc mc phi Rn cs cl cn ws) (hE : EvOk E) (hA : EvA E) (hU : UOk E (fr (nf - 1)).1.1 U) (fm : FM U ls (fr (nf - 1)) L) (rl : RLg zr nc ac nr rs) (cg : CLg zc nc acC nrc so) (lg : LgR E SF sd nc ac acC nr rs so ws) (h0 : 0 < na ∧ (ak 0).1 = 1 ∧ (ak 0).2.1 = sd) (hsd : zr.2.1 337 24 = zc.2.1 kt 1) {o a ku md : Nat} (ho : 47 ≤ o) (ho2 : o ≤ 51) (ha : a < U.1.2.1) (ha2 : a < 256) (hid : U.2.2.2.1 a = 256 * md + a) (hu : zr.2.2 337 48 = some ku) (hok : okO sh n ku 16 = true) (hfi : fn_X16_identity F sh n zr ku (nI a) = some (zr, nI (U.2.2.2.1 a))) (hx : x.toInt32 = nI a) (hmd : zc.1 p 2 = nI md) (hop : aRes U ls (fr (nf - 1)).1.2.1 o a L = .ok L') : Out E sh n pk kt sl0 lim zr zc fr nf na ak g ws U ls L' (fun i => i = (fr (nf - 1)).1.2.2) (oneD F sh n (nI o) x y zr) (stepD F sh n p w (nI o) (nI a) zc) := by
  rw [stepD_ke ho ho2, hmd]
  unfold aRes at hop
  obtain ⟨M, h1, h2⟩ := px_ok hop
  obtain ⟨t1, t2, t3⟩ := takeT_ok h1
  subst t3
  obtain ⟨_, h3, h4⟩ := px_ok h2
  obtain ⟨_, h5, h6⟩ := px_ok h4
  obtain ⟨_, h7, h8⟩ := px_ok h6
  obtain ⟨_, h9, h10⟩ := px_ok h8
  have n3 := nd_ok h3
  have n7 := nd_ok h7
  have S := sim_res hF h hE hA hU fm rl cg lg h0 hsd (o := o) ho ho2 ha ha2 hid t1 t2 n3 (fun q => by subst q; simpa using n7) h10 hu hok hfi
  have : o = 47 ∨ o = 48 ∨ o = 49 ∨ o = 50 ∨ o = 51 := by omega
  rcases this with q | q | q | q | q <;> subst q
  · rw [oneD_47, hx]; exact S
  · rw [oneD_48, hx]; exact S
  · rw [oneD_49, hx]; exact S
  · rw [oneD_50, hx]; exact S
  · rw [oneD_51, hx]; exact S
end
