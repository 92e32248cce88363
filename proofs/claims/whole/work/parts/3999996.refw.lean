/-! THE REFERENCE'S MACHINE: steering, calls, returns -/
section
variable {F n : Nat} {sh : Nat → Nat × Nat} {z z' : St} {H : Hp} {m : Nat} {fr : Nat → Fm} {nf na : Nat} {ak : Nat → Ask} {g lim : Nat}
theorem bsm_p {fr : Nat → Fm} {k : Nat} (h : 0 < k) : bsm fr k = bsm fr (k - 1) + (fr (k - 1)).2.2.1.1 := by
  obtain ⟨j, rfl⟩ : ∃ j, k = j + 1 := ⟨k - 1, by omega⟩
  rfl
/-- another instruction is next -/
theorem RM.nx (h : RM sh n z H m fr nf na ak g lim) (to : Nat) : RM sh n (si z 393 (nf - 1) (nI to)) H m (setF fr (nf - 1) (((fr (nf - 1)).1.1, (fr (nf - 1)).1.2.1, to), (fr (nf - 1)).2)) nf na ak g lim ∧ FrR z (si z 393 (nf - 1) (nI to)) := by
  obtain ⟨hL, hr, hM, hf, ha, h1, h2, h3, h4⟩ := h
  have key : ∀ k, k ≠ 393 → (si z 393 (nf - 1) (nI to)).1 k = z.1 k := fun k hk => by funext j; simp [si_1, hk]
  obtain ⟨t1, t2, t3⟩ := hf.top
  obtain ⟨a1, a2, a3, a4, a5, a6, a7⟩ := t1
  have e337 := key 337 (by decide)
  refine ⟨⟨hL.of rfl, by unfold Run; rw [e337]; exact hr, hM.fr (fun k a b => key k (by omega)) (fun _ _ _ => rfl), ?_, ha.of (by rw [e337]) (fun k a b => ⟨key k (by omega), rfl⟩), by rw [e337]; exact h1, by rw [e337]; exact h2, h3, h4⟩, ⟨rfl, fun k k1 k2 => ⟨key k (fun q => k2 (by rw [q]; right; right; omega)), rfl⟩, fun j _ => by rw [e337]; exact ⟨rfl, rfl⟩⟩⟩
  refine hf.set _ (by rw [e337]) a1 (by rw [e337, hf.2.2.2.1, t2]) (fun k d c1 c2 hd => ?_) ⟨by rw [key 391 (by decide)]; exact a2, by rw [key 392 (by decide)]; exact a3, by simp [si_1], by rw [key 394 (by decide)]; exact a5⟩ (fun j _ => by rw [key 397 (by decide), key 398 (by decide)]; exact ⟨rfl, rfl⟩) (fun j _ => by rw [key 395 (by decide), key 396 (by decide)]; exact ⟨rfl, rfl⟩) (fun k hk => by rw [key 397 (by decide), key 398 (by decide)]; exact a6 k hk) (fun k q hk => by rw [key 395 (by decide), key 396 (by decide)]; exact a7 k q hk)
  by_cases c : k = 393
  · subst c; simp [si_1, show d ≠ nf - 1 by omega]
  · rw [key k c]
theorem RM.i0 (h : RM sh n z H m fr nf na ak g lim) : nI nf - 1 = nI (nf - 1) ∧ okI (nI (nf - 1)) 32 = true ∧ (nI (nf - 1)).toNatClampNeg = nf - 1 := by
  have a := h.2.2.2.1.2.1
  have b := h.2.2.2.1.2.2.1
  exact ⟨pk_sub (a := nf) (b := 1) (by omega), okI_nI (by omega) (by omega), nI_clamp (by omega)⟩
theorem RM.br69 (h : RM sh n z H m fr nf na ak g lim) (to : Nat) : fn_X18_branch_B69 F sh n 337 (nI to) z 1 = some (si z 393 (nf - 1) (nI to), ()) ∧ fn_X18_branch_B69 F sh n 337 (nI to) z 0 = some (z, ()) := by
  obtain ⟨i1, i2, i3⟩ := h.i0
  unfold fn_X18_branch_B69
  refine ⟨?_, if_pos rfl⟩
  rw [if_neg one0]
  simp only [b_model h.1, grd_true, lnk_s, h.2.2.2.1.1, i1, i2, i3, lt_t]
/-- 2 -/
theorem RM.br2 (h : RM sh n z H m fr nf na ak g lim) (to : Nat) : fn_X18_branch F sh n z 337 2 (nI to) = some (si z 393 (nf - 1) (nI to), ()) := by
  unfold fn_X18_branch
  rw [if_pos rfl]
  unfold fn_X18_branch_B10
  rw [if_pos (by decide)]
  exact (h.br69 to).1
/-- 3, 4 -/
theorem RM.br34 (h : RM sh n z H m fr nf na ak g lim) {o : Nat} (ho : o = 3 ∨ o = 4) (to : Nat) (h1 : 1 ≤ (fr (nf - 1)).2.2.1.1) (h0 : ((fr (nf - 1)).2.2.1.2 ((fr (nf - 1)).2.2.1.1 - 1)).2.1 = 0) {x : Nat} (ex : ((fr (nf - 1)).2.2.1.2 ((fr (nf - 1)).2.2.1.1 - 1)).1 = x) (hk : (H x).1 = 1) : (decide ((H x).2.2.1 = 1) = decide (o = 3) → ∃ z', fn_X18_branch F sh n z 337 (nI o) (nI to) = some (z', ()) ∧ RM sh n z' H m (setF fr (nf - 1) (((fr (nf - 1)).1.1, (fr (nf - 1)).1.2.1, to), (setH (fr (nf - 1)) ((fr (nf - 1)).2.2.1.1 - 1)).2)) nf na ak g lim ∧ FrR z z') ∧ (decide ((H x).2.2.1 = 1) ≠ decide (o = 3) → ∃ z', fn_X18_branch F sh n z 337 (nI o) (nI to) = some (z', ()) ∧ RM sh n z' H m (setF fr (nf - 1) (setH (fr (nf - 1)) ((fr (nf - 1)).2.2.1.1 - 1))) nf na ak g lim ∧ FrR z z') := by
  subst ex
  have hal : (H ((fr (nf - 1)).2.2.1.2 ((fr (nf - 1)).2.2.1.1 - 1)).1).1 ≠ 0 := by omega
  obtain ⟨z1, p1, p2, p3⟩ := h.takeK (F := F) h1 h0 hal
  rw [hk] at p1
  obtain ⟨b1, b2⟩ := p2.2.2.1.i1 hal
  obtain ⟨_, _, r3, _, _⟩ := p2.2.2.1.row hal
  obtain ⟨q1, q2⟩ := p2.nx to
  rw [setF_s, setF_2] at q1
  obtain ⟨c1, c2⟩ := p2.br69 (F := F) to
  have n2 : ¬ nI o = 2 := by rcases ho with e | e <;> subst e <;> decide
  have l2 : ¬ nI o ≤ 2 := by rcases ho with e | e <;> subst e <;> decide
  have body : ∀ p : Int32, p = (if (H ((fr (nf - 1)).2.2.1.2 ((fr (nf - 1)).2.2.1.1 - 1)).1).2.2.1 = 1 then 1 else 0) → fn_X18_branch F sh n z 337 (nI o) (nI to) = fn_X18_branch_B50 F sh n (nI o) 337 (nI to) z1 p := by
    intro p hp
    unfold fn_X18_branch
    rw [if_neg n2]
    unfold fn_X18_branch_B10
    rw [if_neg l2, show (1 : Int32) = nI 1 from rfl, p1, cal_s]
    simp only [b_model h.1, b_model p2.1, b_trees p2.1, grd_true, p2.goes, cal_s, if_neg one0, lnk_s, b1, b2, r3]
    rw [hp]
    by_cases c : (H ((fr (nf - 1)).2.2.1.2 ((fr (nf - 1)).2.2.1.1 - 1)).1).2.2.1 = 1
    · rw [if_pos c, if_pos c]; rfl
    · rw [if_neg c, if_neg c]
  have fin : ∀ p q : Int32, fn_X18_branch_B60 F sh n p 337 (nI to) z1 q = if p = q then some (si z1 393 (nf - 1) (nI to), ()) else some (z1, ()) := by
    intro p q
    unfold fn_X18_branch_B60
    by_cases c : p = q
    · rw [if_pos c, if_pos c]
      unfold fn_X18_branch_B68
      exact c1
    · rw [if_neg c, if_neg c]
      unfold fn_X18_branch_B67 fn_X18_branch_B68
      exact c2
  have all : fn_X18_branch F sh n z 337 (nI o) (nI to) = if decide ((H ((fr (nf - 1)).2.2.1.2 ((fr (nf - 1)).2.2.1.1 - 1)).1).2.2.1 = 1) = decide (o = 3) then some (si z1 393 (nf - 1) (nI to), ()) else some (z1, ()) := by
    rw [body _ rfl]
    unfold fn_X18_branch_B50
    rcases ho with e | e
    · subst e
      rw [if_pos (by rfl), fin]
      by_cases c : (H ((fr (nf - 1)).2.2.1.2 ((fr (nf - 1)).2.2.1.1 - 1)).1).2.2.1 = 1
      · simp [c]
      · simp [c]
    · subst e
      rw [if_neg (by decide), fin]
      by_cases c : (H ((fr (nf - 1)).2.2.1.2 ((fr (nf - 1)).2.2.1.1 - 1)).1).2.2.1 = 1
      · simp [c]
      · simp [c]
  constructor
  · intro c
    rw [if_pos c] at all
    exact ⟨_, all, q1, p3.trans q2⟩
  · intro c
    rw [if_neg c] at all
    exact ⟨_, all, p2, p3⟩
/-- 1, from a frame above another -/
theorem RM.ret (h : RM sh n z H m fr nf na ak g lim) (h2 : 2 ≤ nf) {ku : Nat} (hu : z.2.2 337 48 = some ku) (ho : okO sh n ku 16 = true) (hg : fn_X16_many F sh n z ku (nI (fr (nf - 1)).1.2.1) 1 = some (z, nI (fr (nf - 1)).2.2.1.1)) (h64 : (fr (nf - 2)).2.2.1.1 + (fr (nf - 1)).2.2.1.1 ≤ 64) (rl : Nat → Sl) (hp : ∀ k, k < (fr (nf - 1)).2.2.1.1 → (rl k).1 = ((fr (nf - 1)).2.2.1.2 k).1 ∧ (rl k).2.1 = ((fr (nf - 1)).2.2.1.2 k).2.1) : ∃ z', fn_X18_giveBack F sh n z 337 = some (z', ()) ∧ RM sh n z' H m (setF fr (nf - 2) (((fr (nf - 2)).1.1, (fr (nf - 2)).1.2.1, (fr (nf - 2)).1.2.2), (fr (nf - 2)).2.1, ((fr (nf - 2)).2.2.1.1 + (fr (nf - 1)).2.2.1.1, fun k => if k < (fr (nf - 2)).2.2.1.1 then (fr (nf - 2)).2.2.1.2 k else rl (k - (fr (nf - 2)).2.2.1.1)), fun _ => none)) (nf - 1) na ak g lim ∧ FrR z z' := by
  obtain ⟨i1, i2, i3⟩ := h.i0
  obtain ⟨hL, hr, hM, hf, ha, g1, g2, g3, g4⟩ := h
  obtain ⟨t1, t2, t3⟩ := hf.top
  obtain ⟨a1, a2, a3, a4, a5, a6, a7⟩ := t1
  have key : ∀ k, k ≠ 337 → (si z 337 36 (nI (nf - 1))).1 k = z.1 k := fun k hk => by funext j; simp [si_1, hk]
  have k2 : ∀ j, j ≠ 36 → (si z 337 36 (nI (nf - 1))).1 337 j = z.1 337 j := fun j hj => by simp [si_1, hj]
  have bn : bsm fr (nf - 1) = bsm fr (nf - 2) + (fr (nf - 2)).2.2.1.1 := by
    have : nf - 1 = nf - 2 + 1 := by omega
    rw [this]; rfl
  refine ⟨si z 337 36 (nI (nf - 1)), ?_, ⟨hL.of rfl, by unfold Run; rw [k2 27 (by decide)]; exact hr, hM.fr (fun k a b => key k (by omega)) (fun _ _ _ => rfl), ⟨by simp [si_1], by omega, by have := hf.2.2.1; omega, ?_, fun d hd => ?_⟩, ha.of (k2 29 (by decide)) (fun k a b => ⟨key k (by omega), rfl⟩), by rw [k2 26 (by decide)]; exact g1, by rw [k2 25 (by decide)]; exact g2, g3, g4⟩, ⟨rfl, fun k k1 _ => ⟨key k k1, rfl⟩, fun j hj => ⟨k2 j (fun e => hj (by rw [e]; simp [mfl])), rfl⟩⟩⟩
  · have e2 : nI (bsm fr nf) - nI (bsm fr (nf - 1)) = nI (fr (nf - 1)).2.2.1.1 := by rw [pk_sub (by omega)]; congr 1; omega
    have nz : ¬ nI (nf - 1) = 0 := nI_ne0 (by omega) (by have := hf.2.2.1; omega)
    have s36 : (si z 337 36 (nI (nf - 1))).1 337 36 = nI (nf - 1) := by simp [si_1]
    unfold fn_X18_giveBack
    simp only [b_model hL, grd_true, hu, lnk_s, hf.1, i1, i2, i3, ho, a3, hg, cal_s, hf.2.2.2.1, a5, e2, ↓reduceIte]
    unfold fn_X18_giveBack_B44
    simp only [hf.1, i1, lt_t, s36, if_neg nz]
  · rw [k2 45 (by decide), hf.2.2.2.1]
    have e : bsm (setF fr (nf - 2) (((fr (nf - 2)).1.1, (fr (nf - 2)).1.2.1, (fr (nf - 2)).1.2.2), (fr (nf - 2)).2.1, ((fr (nf - 2)).2.2.1.1 + (fr (nf - 1)).2.2.1.1, fun k => if k < (fr (nf - 2)).2.2.1.1 then (fr (nf - 2)).2.2.1.2 k else rl (k - (fr (nf - 2)).2.2.1.1)), fun _ => none)) (nf - 1) = bsm fr nf := by
      rw [bsm_p (by omega), show nf - 1 - 1 = nf - 2 by omega, bsm_set (Nat.le_refl _), setF_s, t2, bn]
      simp only
      omega
    rw [e]
  · obtain ⟨b1, b2, b3, b4, b5, b6, b7⟩ := hf.2.2.2.2 d (by omega)
    by_cases c : d = nf - 2
    · subst c
      unfold RFd
      rw [setF_s, bsm_set (Nat.le_refl _)]
      refine ⟨h64, by rw [key 391 (by decide)]; exact b2, by rw [key 392 (by decide)]; exact b3, by rw [key 393 (by decide)]; exact b4, by rw [key 394 (by decide)]; exact b5, fun k hk => ?_, fun k s hk => by rw [key 395 (by decide), key 396 (by decide)]; exact b7 k s hk⟩
      rw [key 397 (by decide), key 398 (by decide)]
      simp only at hk ⊢
      by_cases ck : k < (fr (nf - 2)).2.2.1.1
      · rw [if_pos ck]; exact b6 k ck
      · rw [if_neg ck]
        obtain ⟨q1, q2⟩ := hp (k - (fr (nf - 2)).2.2.1.1) (by omega)
        obtain ⟨w1, w2⟩ := a6 (k - (fr (nf - 2)).2.2.1.1) (by omega)
        rw [show bsm fr (nf - 1) + (k - (fr (nf - 2)).2.2.1.1) = bsm fr (nf - 2) + k by omega] at w1 w2
        refine ⟨by rw [q1]; exact w1, ?_⟩
        rw [w2]
        unfold rB
        rw [q2]
    · unfold RFd
      rw [setF_n c, bsm_set (by omega)]
      exact ⟨b1, by rw [key 391 (by decide)]; exact b2, by rw [key 392 (by decide)]; exact b3, by rw [key 393 (by decide)]; exact b4, by rw [key 394 (by decide)]; exact b5, fun k hk => by rw [key 397 (by decide), key 398 (by decide)]; exact b6 k hk, fun k s hk => by rw [key 395 (by decide), key 396 (by decide)]; exact b7 k s hk⟩
end
