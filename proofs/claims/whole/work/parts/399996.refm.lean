/-! THE REFERENCE'S MACHINE: its rows as frames -/
def bsm (fr : Nat → Fm) : Nat → Nat
  | 0 => 0
  | d + 1 => bsm fr d + (fr d).2.2.1.1
abbrev rB (s : Sl) : Bool := decide (s.2.1 ≠ 0)
def RFd (z : St) (fr : Nat → Fm) (d : Nat) : Prop := (fr d).2.2.1.1 ≤ 64 ∧ z.1 391 d = nI (fr d).1.1 ∧ z.1 392 d = nI (fr d).1.2.1 ∧ z.1 393 d = nI (fr d).1.2.2 ∧ z.1 394 d = nI (bsm fr d) ∧ (∀ k, k < (fr d).2.2.1.1 → z.1 397 (bsm fr d + k) = nI ((fr d).2.2.1.2 k).1 ∧ z.1 398 (bsm fr d + k) = bI (rB ((fr d).2.2.1.2 k))) ∧ ∀ k s, (fr d).2.1 k = some s → k < 40 ∧ z.1 395 (40 * d + k) = nI s.1 ∧ z.1 396 (40 * d + k) = bI (rB s)
def RFs (z : St) (fr : Nat → Fm) (nf : Nat) : Prop := z.1 337 36 = nI nf ∧ 0 < nf ∧ nf ≤ 32 ∧ z.1 337 45 = nI (bsm fr nf) ∧ ∀ d, d < nf → RFd z fr d
theorem bsm_le {fr : Nat → Fm} : ∀ {d e : Nat}, d ≤ e → bsm fr d ≤ bsm fr e := by
  intro d e h
  induction h with
  | refl => exact Nat.le_refl _
  | step _ ih => exact Nat.le_trans ih (Nat.le_add_right _ _)
theorem bsm_64 {z : St} {fr : Nat → Fm} {nf : Nat} (h : ∀ d, d < nf → RFd z fr d) : ∀ d, d ≤ nf → bsm fr d ≤ 64 * d := by
  intro d
  induction d with
  | zero => intro _; simp [bsm]
  | succ d ih => intro hd; have := (h d (by omega)).1; have := ih (by omega); simp only [bsm]; omega
theorem bsm_set {fr : Nat → Fm} {d : Nat} {x : Fm} : ∀ {e : Nat}, e ≤ d → bsm (setF fr d x) e = bsm fr e := by
  intro e
  induction e with
  | zero => intro _; rfl
  | succ e ih => intro he; simp only [bsm]; rw [ih (by omega), setF_n (by omega)]
section
variable {F n : Nat} {sh : Nat → Nat × Nat} {z z' : St} {fr : Nat → Fm} {nf : Nat}
theorem RFs.of (h : RFs z fr nf) (e1 : z'.1 337 36 = z.1 337 36) (e2 : z'.1 337 45 = z.1 337 45) (e3 : ∀ c, 391 ≤ c → c ≤ 398 → z'.1 c = z.1 c) : RFs z' fr nf := by
  refine ⟨by rw [e1]; exact h.1, h.2.1, h.2.2.1, by rw [e2]; exact h.2.2.2.1, fun d hd => ?_⟩
  obtain ⟨a1, a2, a3, a4, a5, a6, a7⟩ := h.2.2.2.2 d hd
  exact ⟨a1, by rw [e3 391 (by omega) (by omega)]; exact a2, by rw [e3 392 (by omega) (by omega)]; exact a3, by rw [e3 393 (by omega) (by omega)]; exact a4, by rw [e3 394 (by omega) (by omega)]; exact a5, fun k hk => by rw [e3 397 (by omega) (by omega), e3 398 (by omega) (by omega)]; exact a6 k hk, fun k s hk => by rw [e3 395 (by omega) (by omega), e3 396 (by omega) (by omega)]; exact a7 k s hk⟩
/-- the topmost frame changes -/
theorem RFs.set (h : RFs z fr nf) (x : Fm) (e1 : z'.1 337 36 = z.1 337 36) (hx : x.2.2.1.1 ≤ 64) (e2 : z'.1 337 45 = nI (bsm fr (nf - 1) + x.2.2.1.1)) (e3 : ∀ c d, 391 ≤ c → c ≤ 394 → d < nf - 1 → z'.1 c d = z.1 c d) (e4 : z'.1 391 (nf - 1) = nI x.1.1 ∧ z'.1 392 (nf - 1) = nI x.1.2.1 ∧ z'.1 393 (nf - 1) = nI x.1.2.2 ∧ z'.1 394 (nf - 1) = nI (bsm fr (nf - 1))) (e5 : ∀ j, j < bsm fr (nf - 1) → z'.1 397 j = z.1 397 j ∧ z'.1 398 j = z.1 398 j) (e6 : ∀ j, j < 40 * (nf - 1) → z'.1 395 j = z.1 395 j ∧ z'.1 396 j = z.1 396 j) (e7 : ∀ k, k < x.2.2.1.1 → z'.1 397 (bsm fr (nf - 1) + k) = nI (x.2.2.1.2 k).1 ∧ z'.1 398 (bsm fr (nf - 1) + k) = bI (rB (x.2.2.1.2 k))) (e8 : ∀ k s, x.2.1 k = some s → k < 40 ∧ z'.1 395 (40 * (nf - 1) + k) = nI s.1 ∧ z'.1 396 (40 * (nf - 1) + k) = bI (rB s)) : RFs z' (setF fr (nf - 1) x) nf := by
  have h0 := h.2.1
  have bn : bsm (setF fr (nf - 1) x) nf = bsm fr (nf - 1) + x.2.2.1.1 := by
    have : nf = nf - 1 + 1 := by omega
    rw [this]
    simp only [bsm]
    rw [show nf - 1 + 1 - 1 = nf - 1 by omega, bsm_set (Nat.le_refl _), setF_s]
  refine ⟨by rw [e1]; exact h.1, h0, h.2.2.1, by rw [bn]; exact e2, fun d hd => ?_⟩
  by_cases c : d = nf - 1
  · subst c
    unfold RFd
    rw [setF_s, bsm_set (Nat.le_refl _)]
    exact ⟨hx, e4.1, e4.2.1, e4.2.2.1, e4.2.2.2, e7, e8⟩
  · obtain ⟨a1, a2, a3, a4, a5, a6, a7⟩ := h.2.2.2.2 d hd
    unfold RFd
    rw [setF_n c, bsm_set (by omega)]
    have hb : bsm fr d + (fr d).2.2.1.1 ≤ bsm fr (nf - 1) := bsm_le (d := d + 1) (e := nf - 1) (by omega)
    refine ⟨a1, by rw [e3 391 d (by omega) (by omega) (by omega)]; exact a2, by rw [e3 392 d (by omega) (by omega) (by omega)]; exact a3, by rw [e3 393 d (by omega) (by omega) (by omega)]; exact a4, by rw [e3 394 d (by omega) (by omega) (by omega)]; exact a5, fun k hk => ?_, fun k s hk => ?_⟩
    · obtain ⟨q1, q2⟩ := e5 (bsm fr d + k) (by omega)
      rw [q1, q2]; exact a6 k hk
    · obtain ⟨k40, b1, b2⟩ := a7 k s hk
      obtain ⟨q1, q2⟩ := e6 (40 * d + k) (by omega)
      exact ⟨k40, by rw [q1]; exact b1, by rw [q2]; exact b2⟩
theorem RFs.top (h : RFs z fr nf) : RFd z fr (nf - 1) ∧ bsm fr nf = bsm fr (nf - 1) + (fr (nf - 1)).2.2.1.1 ∧ bsm fr nf ≤ 2048 := by
  have h0 := h.2.1
  refine ⟨h.2.2.2.2 _ (by omega), ?_, ?_⟩
  · have : nf = nf - 1 + 1 := by omega
    rw [this]; rfl
  · have := bsm_64 h.2.2.2.2 nf (Nat.le_refl _)
    have := h.2.2.1
    omega
theorem nar_bI (b : Bool) : vp_nar .boolean (bI b) = bI b := by cases b <;> rfl
/-- the machine goes on -/
def Run (z : St) : Prop := z.1 337 27 = -1
theorem goes_t (hL : Lay sh n z) (h : Run z) : fn_X18_goesOn F sh n z 337 = some (z, 1) := by
  unfold fn_X18_goesOn
  simp only [b_model hL, grd_true]
  rw [h, if_neg (by decide)]
def puS (z : St) (hh : Nat) (v : Int32) (r : Bool) : St := si (si (si z 397 hh v) 398 hh (bI r)) 337 45 (nI (hh + 1))
theorem rpush_t {hh : Nat} {v : Int32} {r : Bool} (hL : Lay sh n z) (h : Run z) (h1 : z.1 337 45 = nI hh) (h2 : hh < 2200) : fn_X18_push F sh n z 337 v (bI r) = some (puS z hh v r, ()) := by
  have a3 : okI (nI hh) 2200 = true := okI_nI h2 (by omega)
  have a4 : (nI hh).toNatClampNeg = hh := nI_clamp (by omega)
  unfold fn_X18_push
  simp only [b_model hL, grd_true, lnk_s, lt_t, goes_t hL h, cal_s, if_neg one0, h1, a3, a4, si_1, si_3, Nat.reduceEqDiff, ↓reduceIte, nar_bI, nI_1, puS]
theorem RFs.push (h : RFs z fr nf) {s : Sl} (h64 : (fr (nf - 1)).2.2.1.1 < 64) : RFs (puS z (bsm fr nf) (nI s.1) (rB s)) (setF fr (nf - 1) (pshV (fr (nf - 1)) s)) nf := by
  obtain ⟨t1, t2, t3⟩ := h.top
  obtain ⟨a1, a2, a3, a4, a5, a6, a7⟩ := t1
  refine h.set _ (by simp [puS, si_1]) (by simp only [pshV, setN]; omega) (by simp [puS, si_1, pshV, setN]; rw [t2, Nat.add_assoc]) (fun c d c1 c2 hd => ?_) ⟨by simp [puS, si_1]; exact a2, by simp [puS, si_1]; exact a3, by simp [puS, si_1]; exact a4, by simp [puS, si_1]; exact a5⟩ (fun j hj => ?_) (fun j hj => ?_) (fun k hk => ?_) (fun k q hk => ?_)
  · have : c ≠ 397 ∧ c ≠ 398 ∧ c ≠ 337 := by omega
    simp [puS, si_1, this]
  · have : j ≠ bsm fr nf := by omega
    simp [puS, si_1, this]
  · simp [puS, si_1]
  · simp only [pshV, setN] at hk ⊢
    by_cases c : k < (fr (nf - 1)).2.2.1.1
    · have : bsm fr (nf - 1) + k ≠ bsm fr nf := by omega
      rw [if_pos c]
      simp [puS, si_1, this]
      have := a6 k c
      simpa using this
    · have e : bsm fr (nf - 1) + k = bsm fr nf := by omega
      rw [if_neg c, e]
      simp [puS, si_1]
  · have := a7 k q hk
    refine ⟨this.1, ?_, ?_⟩
    · simp [puS, si_1]; exact this.2.1
    · simp [puS, si_1]; simpa using this.2.2
def tkS (z : St) (hh : Nat) : St := si (si z 337 45 (nI hh)) 337 46 (z.1 397 hh)
theorem rtake_t {hh bs : Nat} {r : Bool} (hL : Lay sh n z) (h : Run z) (hnf : z.1 337 36 = nI nf) (hn : 0 < nf) (hn2 : nf ≤ 32) (h1 : z.1 337 45 = nI (hh + 1)) (h2 : hh < 2200) (h3 : z.1 394 (nf - 1) = nI bs) (h4 : bs ≤ hh) (h5 : z.1 398 hh = bI r) : fn_X18_takeAny F sh n z 337 (bI r) = some (tkS z hh, z.1 397 hh) := by
  have a3 : okI (nI hh) 2200 = true := okI_nI h2 (by omega)
  have a4 : (nI hh).toNatClampNeg = hh := nI_clamp (by omega)
  have e1 : nI nf - 1 = nI (nf - 1) := pk_sub (a := nf) (b := 1) (by omega)
  have e2 : nI (hh + 1) - 1 = nI hh := by have := pk_sub (a := hh + 1) (b := 1) (by omega); rw [Nat.add_sub_cancel] at this; exact this
  have b3 : okI (nI (nf - 1)) 32 = true := okI_nI (by omega) (by omega)
  have b4 : (nI (nf - 1)).toNatClampNeg = nf - 1 := nI_clamp (by omega)
  have ne : ¬ nI (hh + 1) = nI bs := fun q => by have := (nI_eq (by omega) (by omega)).mp q; omega
  have g2 : Run (si z 337 45 (nI hh)) := by unfold Run; simp [si_1]; exact h
  unfold fn_X18_takeAny
  simp only [b_model hL, grd_true, lnk_s, lt_t, goes_t hL h, cal_s, if_neg one0, hnf, e1, b3, b4, h1, h3, if_neg ne, e2, a3, a4, h5, ↓reduceIte]
  unfold fn_X18_takeAny_B44
  have l2 : (si z 337 45 (nI hh)).2.2 = z.2.2 := rfl
  have f1 : (si z 337 45 (nI hh)).1 337 45 = nI hh := by simp [si_1]
  have f2 : (si z 337 45 (nI hh)).1 397 hh = z.1 397 hh := by simp [si_1]
  have f3 : (si (si z 337 45 (nI hh)) 337 46 (z.1 397 hh)).1 337 46 = z.1 397 hh := by simp [si_1]
  simp only [b_model hL, grd_true, lnk_s, lt_t, goes_t hL h, cal_s, if_neg one0, h1, e2, l2, f1, a3, a4, f2, f3, tkS]
theorem RFs.take (h : RFs z fr nf) (h1 : 1 ≤ (fr (nf - 1)).2.2.1.1) : RFs (tkS z (bsm fr nf - 1)) (setF fr (nf - 1) (setH (fr (nf - 1)) ((fr (nf - 1)).2.2.1.1 - 1))) nf := by
  obtain ⟨t1, t2, t3⟩ := h.top
  obtain ⟨a1, a2, a3, a4, a5, a6, a7⟩ := t1
  have key : ∀ c, 391 ≤ c → (tkS z (bsm fr nf - 1)).1 c = z.1 c := fun c hc => by
    funext j
    have : c ≠ 337 := by omega
    simp [tkS, si_1, this]
  refine h.set _ (by simp [tkS, si_1]) (by simp only [setH]; omega) (by simp [tkS, si_1, setH]; rw [t2]; congr 1; omega) (fun c d c1 c2 hd => by rw [key c c1]) ⟨by rw [key 391 (by omega)]; exact a2, by rw [key 392 (by omega)]; exact a3, by rw [key 393 (by omega)]; exact a4, by rw [key 394 (by omega)]; exact a5⟩ (fun j hj => by rw [key 397 (by omega), key 398 (by omega)]; exact ⟨rfl, rfl⟩) (fun j hj => by rw [key 395 (by omega), key 396 (by omega)]; exact ⟨rfl, rfl⟩) (fun k hk => ?_) (fun k q hk => ?_)
  · simp only [setH] at hk ⊢
    rw [key 397 (by omega), key 398 (by omega)]
    exact a6 k (by omega)
  · rw [key 395 (by omega), key 396 (by omega)]
    exact a7 k q hk
/-- the topmost slot is taken -/
theorem RFs.take_t (hL : Lay sh n z) (hr : Run z) (h : RFs z fr nf) (h1 : 1 ≤ (fr (nf - 1)).2.2.1.1) : fn_X18_takeAny F sh n z 337 (bI (rB ((fr (nf - 1)).2.2.1.2 ((fr (nf - 1)).2.2.1.1 - 1)))) = some (tkS z (bsm fr nf - 1), nI ((fr (nf - 1)).2.2.1.2 ((fr (nf - 1)).2.2.1.1 - 1)).1) := by
  obtain ⟨t1, t2, t3⟩ := h.top
  obtain ⟨a1, a2, a3, a4, a5, a6, a7⟩ := t1
  obtain ⟨b1, b2⟩ := a6 ((fr (nf - 1)).2.2.1.1 - 1) (by omega)
  have e : bsm fr (nf - 1) + ((fr (nf - 1)).2.2.1.1 - 1) = bsm fr nf - 1 := by omega
  rw [e] at b1 b2
  have := rtake_t (F := F) (hh := bsm fr nf - 1) hL hr h.1 h.2.1 h.2.2.1 (by rw [h.2.2.2.1]; congr 1; omega) (by omega) a5 (by omega) b2
  rw [this, b1]
theorem Run.tk (h : Run z) {hh : Nat} : Run (tkS z hh) := by unfold Run; simp [tkS, si_1]; exact h
theorem Run.pu (h : Run z) {hh : Nat} {v : Int32} {r : Bool} : Run (puS z hh v r) := by unfold Run; simp [puS, si_1]; exact h
end
