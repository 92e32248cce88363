/-! THE CLASS'S MACHINE: giving back to a frame below -/
section
variable {F n : Nat} {sh : Nat → Nat × Nat} {z z' : St} {pk : Nat → Nat} {kt : Nat} {H : Hp} {m : Nat} {sl0 : Int32} {fr : Nat → Fm} {cs cl : Nat → Nat → Nat} {nf g lim : Nat}
theorem rtC_0 {d h : Nat} {w : Nat → Nat} : rtC cs d h 0 w = cs := by
  funext e k
  unfold rtC
  rw [if_neg (by omega)]
/-- 1, from a frame above another -/
theorem CM.ret (hF : 300 ≤ F) (h : CM sh n z pk kt H m sl0 fr cs cl nf g lim) (h2 : 2 ≤ nf) {lc : Nat} (hd : DpC F sh n z (pk (fr (nf - 1)).1.1) (fr (nf - 1)).1.2.1 lc (nf - 1)) (ho : okO sh n (pk (fr (nf - 1)).1.1) 5 = true) (hg : fn_X5_gives F sh n z (pk (fr (nf - 1)).1.1) (nI (fr (nf - 1)).1.2.1) = some (z, nI (fr (nf - 1)).2.2.1.1)) (h64 : (fr (nf - 2)).2.2.1.1 + (fr (nf - 1)).2.2.1.1 ≤ 64) (rl : Nat → Sl) : ∃ z', fn_X4_giveBack F sh n z 87 = some (z', ()) ∧ CM sh n z' pk kt H m sl0 (setF fr (nf - 2) (rtF (fr (nf - 2)) (fr (nf - 1)).2.2.1.1 rl)) (rtC cs (nf - 2) (fr (nf - 2)).2.2.1.1 (fr (nf - 1)).2.2.1.1 (cs (nf - 1))) cl (nf - 1) g lim ∧ FrC z z' := by
  obtain ⟨t1, t2, t3⟩ := h.t0
  have hL := h.1
  have hf := h.2.2.1
  have kk := h.2.2.2.2.1.2.2.1
  have n32 := hf.2.2.1
  obtain ⟨b1, b2, b3, b4, b5, b6, b7⟩ := hf.2.2.2 (nf - 1) (by omega)
  obtain ⟨e, rfl⟩ : ∃ e, nf = e + 2 := ⟨nf - 2, by omega⟩
  simp only [Nat.add_sub_cancel, show e + 2 - 1 = e + 1 by omega] at *
  have C1 : CFs (si z 87 12 (nI e)) pk (setF fr e (rtF (fr e) 0 rl)) cs cl (e + 1) := by
    refine ⟨by simp [si_1], by omega, by omega, fun d hd => ?_⟩
    obtain ⟨c1, c2, c3, c4, c5, c6, c7⟩ := hf.2.2.2 d (by omega)
    have key : ∀ k, k ≠ 87 → (si z 87 12 (nI e)).1 k = z.1 k := fun k hk => by funext j; simp [si_1, hk]
    unfold CFd
    rw [key 99 (by decide), key 100 (by decide), key 101 (by decide), key 102 (by decide), key 103 (by decide)]
    by_cases q : d = e
    · subst q
      rw [setF_s]
      exact ⟨c1, c2, c3, c4, c5, c6, c7⟩
    · rw [setF_n q]
      exact ⟨c1, c2, c3, c4, c5, c6, c7⟩
  have C2 : CM sh n (si z 87 12 (nI e)) pk kt H m sl0 (setF fr e (rtF (fr e) 0 rl)) (rtC cs e (fr e).2.2.1.1 0 (cs (e + 1))) cl (e + 1) g lim := by
    rw [rtC_0]
    exact h.mov rfl (fun j j1 _ => by simp [si_1, show j ≠ 12 by omega]) rfl (by funext j; simp [si_1, show kt ≠ 87 by omega]) (h.2.1.mv (fun k a b => ⟨by funext j; simp [si_1, show k ≠ 87 by omega], rfl⟩)) C1
  have f1 : FrC z (si z 87 12 (nI e)) := ⟨rfl, fun k k1 _ _ => ⟨by funext j; simp [si_1, k1], rfl⟩, fun j hj => by simp [si_1, show j ≠ 12 by omega], fun _ _ => rfl⟩
  obtain ⟨z', q1, q2, q3⟩ := gbL (F := F) (c := (fr (e + 1)).2.2.1.1) (e := e) (w := cs (e + 1)) (rl := rl) (fr := fr) (cs := cs) (by omega) b1 h64 (fr (e + 1)).2.2.1.1 0 F _ (by omega) (by omega) C2 (fun k hk => by simp [si_1]; exact b6 k hk)
  refine ⟨z', ?_, q2, f1.trans q3⟩
  have ok : ∀ k w, 98 ≤ k → k ≤ 101 → shF k = (w, 32) → okA sh n k w (nI (e + 1)) = true := fun k w k1 k2 ee => by rw [lay_a hL k w 32 (by omega) ee]; exact okI_nI (by omega) (by omega)
  have em : nI (e + 1) * 64 = nI ((e + 1) * 64) := by rw [show (64 : Int32) = nI 64 from rfl, pk_mul]
  have es : nI (e + 1) - 1 = nI e := by have := pk_sub (a := e + 1) (b := 1) (by omega); rw [Nat.add_sub_cancel] at this; exact this
  unfold fn_X4_giveBack
  rw [(b_mach hL).1, grd_true, hL.2.2 87 6 98 rfl, lnk_s, t1, ok 98 104 (by omega) (by omega) rfl, grd_true, t3, b2, lnk_s, hL.2.2 87 7 99 rfl, lnk_s, ok 99 101 (by omega) (by omega) rfl, grd_true, b3, lt_t, hL.2.2 87 9 101 rfl, lnk_s, ok 101 101 (by omega) (by omega) rfl, grd_true, ho, grd_true, hg, cal_s, b5, if_pos rfl, gbB hF hL t1 (by omega) hd]
  unfold gbE
  rw [t1, if_neg (nI_ne0 (by omega) (by omega)), hL.2.2 87 9 101 rfl, lnk_s, ok 101 101 (by omega) (by omega) rfl, grd_true, t3, b5, lt_t, em, lt_t, es, lt_t]
  exact q1
end
