/-! STORED COINS, the reference's side -/
theorem i32_k (a c : Int32) : a + 1 + (c - 1) = a + c := by
  rw [Int32.sub_eq_add_neg, Int32.add_comm c (-1), Int32.add_assoc, ← Int32.add_assoc 1 (-1) c, show (1 : Int32) + (-1) = 0 from rfl, Int32.zero_add]
section
variable {F n : Nat} {sh : Nat → Nat × Nat} {z : St} {Q : Hp} {b sz : Nat}
theorem co_11 (hL : Lay sh n z) (kp : Kep z Q b 0 sz) (hco : ∀ w, w < sz → (Q w).1 = 6 → (Q w).2.2.1 = 0 → w + 1 < sz) : ∀ D v u k g t, Pre Q D v u → u ≤ sz → k + 64 * (u - v) < 2 ^ 20 → fn_X18_coinsIn_L11 F sh n 337 (g + (u - v)) z (lN t) (nI (k + 1)) (nI (b + v)) = fn_X18_coinsIn_L11 F sh n 337 g z (lN (t + nsum (rL (fCo Q) (u - v) v))) (nI k) (nI (b + u)) := by
  intro D
  induction D with
  | zero => intro v u k g t h; exact absurd h (by simp [Pre])
  | succ D ih =>
    intro v u k g t h hu hk
    have ge := Pre.ge _ _ _ h
    obtain ⟨p1, p2, p3, p4⟩ := h
    obtain ⟨r0, r1, r2, r3, r4⟩ := kp v (by omega) (by omega)
    have list : ∀ (cs : List Nat) (a b' k t : Nat), PreL (Pre Q D) cs a b' → b' ≤ sz → k + cs.length + 64 * (b' - a) < 2 ^ 20 → a ≤ b' ∧ fn_X18_coinsIn_L11 F sh n 337 (g + (b' - a)) z (lN t) (nI (k + cs.length)) (nI (b + a)) = fn_X18_coinsIn_L11 F sh n 337 g z (lN (t + nsum (rL (fCo Q) (b' - a) a))) (nI k) (nI (b + b')) := by
      intro cs
      induction cs generalizing g with
      | nil =>
        intro a b' k t l1 l2 l3
        have e : a = b' := l1
        subst e
        rw [Nat.sub_self]
        exact ⟨Nat.le_refl _, rfl⟩
      | cons c cs ihc =>
        intro a b' k t l1 l2 l3
        obtain ⟨e, w, w1, w2⟩ := l1
        subst e
        have gw := Pre.ge _ _ _ w1
        rw [List.length_cons] at l3
        have wb : w ≤ b' := by
          have := PreL.ge (Q := Q) (fun a u q => Pre.ge D a u q) _ _ _ w2
          exact this.1
        obtain ⟨x1, x2⟩ := ihc g w b' k (t + nsum (rL (fCo Q) (w - c) c)) w2 l2 (by omega)
        refine ⟨by omega, ?_⟩
        rw [List.length_cons, show g + (b' - c) = (g + (b' - w)) + (w - c) by omega, show k + (cs.length + 1) = (k + cs.length) + 1 by omega, ih c w (k + cs.length) (g + (b' - w)) t w1 (by omega) (by omega), x2, show b' - c = (w - c) + (b' - w) by omega, rL_add, nsum_app, show c + (w - c) = w by omega, Nat.add_assoc]
    obtain ⟨y1, y2⟩ := list (kds Q v) (v + 1) u k (t + nsum (fCo Q v)) p4 hu (by omega)
    have es : rL (fCo Q) (u - v) v = fCo Q v ++ rL (fCo Q) (u - (v + 1)) (v + 1) := by
      rw [show u - v = (u - (v + 1)) + 1 by omega]; rfl
    rw [es, nsum_app, ← Nat.add_assoc, ← y2, show g + (u - v) = (g + (u - (v + 1))) + 1 by omega]
    have ev : (nI (k + 1) + (nI (kds Q v).length - 1) : Int32) = nI (k + (kds Q v).length) := by
      rw [← nI_add k 1, ← nI_add k (kds Q v).length]
      exact i32_k _ _
    have ok : ∀ K c, shF K = (c, 16384) → K < 513 → okA sh n K c (nI (b + v)) = true := fun K c e hK => by
      rw [lay_a hL K c 16384 hK e]; exact okI_nI r0 (by omega)
    rw [fn_X18_coinsIn_L11]
    rw [if_neg (show ¬ nI (k + 1) ≤ 0 from fun e => by have := (nI_leW (a := k + 1) (b := 0) (by omega) (by omega)).mp e; omega), (b_model hL).1, grd_true, hL.2.2 337 13 348 rfl, lnk_s, ok 348 101 rfl (by decide), grd_true, nI_clamp (by omega), r4, lt_t, ev, hL.2.2 337 10 345 rfl, lnk_s, ok 345 100 rfl (by decide), grd_true, r1]
    unfold fn_X18_coinsIn_B66
    by_cases c6 : (Q v).1 = 6
    · rw [if_pos (show nI (Q v).1 = 6 by rw [c6]; rfl), hL.2.2 337 12 347 rfl, lnk_s, ok 347 102 rfl (by decide), grd_true, r3]
      by_cases c0 : (Q v).2.2.1 = 0
      · have v1 := hco v (by omega) c6 c0
        obtain ⟨s0, s1, s2, s3, s4⟩ := kp (v + 1) (by omega) v1
        have ef : fCo Q v = [(Q (v + 1)).2.2.1] := if_pos ⟨c6, c0⟩
        rw [if_pos c0, lnk_s, show nI (b + v) + 1 = nI (b + (v + 1)) from nI_add (b + v) 1, lay_a hL 347 102 16384 (by decide) rfl, okI_nI s0 (by omega), grd_true, nI_clamp (by omega), s3, lt_t, lN_sum, ef]
        rfl
      · have ef : fCo Q v = [] := if_neg (fun w => c0 w.2)
        rw [if_neg c0, show nI (b + v) + 1 = nI (b + (v + 1)) from nI_add (b + v) 1, ef]
        rfl
    · have ef : fCo Q v = [] := if_neg (fun w => c6 w.1)
      rw [if_neg (show ¬ nI (Q v).1 = 6 from fun e => c6 (nI_uq (b := 6) e (by omega) (by omega))), show nI (b + v) + 1 = nI (b + (v + 1)) from nI_add (b + v) 1, ef]
      rfl
theorem coinsIn_t (hF : 100 ≤ F) (hL : Lay sh n z) {i : Nat} (hi : i < 256) (kp : Kep z Q (64 * i) 0 sz) (h64 : sz ≤ 64) (hp : Pre Q 48 0 sz) (hco : ∀ w, w < sz → (Q w).1 = 6 → (Q w).2.2.1 = 0 → w + 1 < sz) : fn_X18_coinsIn F sh n z 337 (nI i) = some (z, lN (nsum (rL (fCo Q) sz 0))) := by
  unfold fn_X18_coinsIn
  have e := co_11 (F := F) hL kp hco 48 0 sz 0 (F - sz) 0 hp (Nat.le_refl _) (by omega)
  rw [lt_t, show (64 * nI i : Int32) = nI (64 * i + 0) by rw [show (64 : Int32) = nI 64 from rfl, pk_mul, Nat.add_zero], show (0 : Int64) = lN 0 from rfl, show (1 : Int32) = nI (0 + 1) from rfl]
  rw [show F - sz + (sz - 0) = F by omega, Nat.sub_zero, Nat.zero_add] at e
  rw [e]
  obtain ⟨g, eg⟩ : ∃ q, F - sz = q + 1 := ⟨F - sz - 1, by omega⟩
  rw [eg, fn_X18_coinsIn_L11, if_pos (show nI 0 ≤ 0 by decide), Nat.zero_add]
end
