/-! STORED COINS, both sides -/
def nsum : List Int64 → Nat
  | [] => 0
  | x :: l => N x + nsum l
theorem nsum_app : ∀ l m, nsum (l ++ m) = nsum l + nsum m
  | [], m => by simp [nsum]
  | x :: l, m => by
    show N x + nsum (l ++ m) = (N x + nsum l) + nsum m
    rw [nsum_app l m]; omega
theorem lN_sum (t : Nat) (x : Int64) : lN t + x = lN (t + N x) := by
  apply N_inj
  rw [N_add]
  have e : ∀ k, N (lN k) = k % 2 ^ 64 := fun k => by
    show (BitVec.ofNat 64 k).toNat = _
    rw [BitVec.toNat_ofNat]
  rw [e, e]
  omega
def fCo (Q : Hp) (i : Nat) : List Int64 := if (Q i).1 = 6 ∧ (Q i).2.2.1 = 0 then [(Q (i + 1)).2.2.1] else []
def gCo (e : Ent) : List Int64 := if e.1 = 10 then [e.2.2.1] else []
theorem lN_n0 {k : Nat} (h1 : 0 < k) (h2 : k < 2 ^ 32) : ¬ lN k = 0 := fun e => by
  have := congrArg N e
  rw [N_lN (by omega), N_0] at this
  omega
theorem ResR.coins {E : Ev} (hA : EvA E) {Q : Hp} {sz k : Nat} {En : List Ent} (h : ResR E E.1 Q sz k En) (hp : Pre Q 48 0 sz) : rL (fCo Q) sz 0 = En.flatMap gCo := by
  obtain ⟨d, tq, h1, h2, h3, h4, h5, h6, h7⟩ := h
  obtain ⟨Hx, hx⟩ := enc_ex d 0 En h1
  obtain ⟨M, m0, hM⟩ := h7 Hx 0 hx
  have k8 : ∀ D p u, Pre Q D p u → True := fun _ _ _ _ => trivial
  refine res_fold (f := fCo Q) (g := gCo) hA h5 (fun p j a b c => (hM p j a b c).2.2) ?_ ?_ d 0 En hx 48 0 sz hp (Nat.le_refl _) (by omega) m0
  · intro i e hi n256 n11 e1 _ _
    have lt := (h5 i hi).2.1
    have q10 : ¬ e.1 = 10 := fun w => by
      rw [e1] at w
      unfold LTm at lt
      rcases lt with v | v | v | v | v | v | v | v
      all_goals omega
    have q6 : ¬ ((Q i).1 = 6 ∧ (Q i).2.2.1 = 0) := fun w => by
      unfold LTm at lt
      rcases lt with v | v | v | v | v | v | v | v
      · omega
      · omega
      · omega
      · omega
      · omega
      · omega
      · have := v.2.2.2.2.1
        rw [w.2] at this
        exact lN_n0 (k := tq i - 256) (by omega) (by omega) this.symm
      · omega
    unfold fCo gCo
    rw [if_neg q6, if_neg q10]
  · intro i e hi t256 kd t11 e1 e2
    have lt := (h5 i (by omega)).2.1
    have lt1 := (h5 (i + 1) hi).2.1
    rw [t256] at lt
    rw [t11] at lt1
    have a6 : (Q i).1 = 6 ∧ (Q i).2.2.1 = 0 := by
      unfold LTm at lt
      rcases lt with v | v | v | v | v | v | v | v
      · omega
      · omega
      · omega
      · omega
      · omega
      · exact ⟨v.2.1, v.2.2.2.1⟩
      · omega
      · omega
    have a3 : (Q (i + 1)).1 = 3 := by
      unfold LTm at lt1
      rcases lt1 with v | v | v | v | v | v | v | v
      all_goals omega
    unfold fCo gCo
    rw [if_pos a6, if_neg (fun w => by omega), if_pos e1, e2]
    rfl
section
variable {F n : Nat} {sh : Nat → Nat × Nat} {z y : St} {nc nr : Nat} {ac : Nat → Int64 × Int64 × Int64} {rs : Nat → Int64 × Nat × Hp × Nat} {so : Nat → Option Rsc}
/-- the class's entries from one on -/
theorem stored_17 (hL : Lay sh n y) (cg : CLg y nc ac nr so) {r : Nat} (hr : r < 256) {En : List Ent} (hn : y.1 11 r = nI En.length) (h64 : En.length ≤ 64) (hE : RowsC y En (r * 64)) (hk : ∀ e, e ∈ En → e.1 < 11) {ko : St → Int64 → Int32 → Option (St × Int64)} : ∀ m p g t, p + m = En.length → m < g → fn_X7_storedCoins_L17 F sh n 3 (nI r) ko g y (lN t) (nI (r * 64 + p)) = ko y (lN (t + nsum ((En.drop p).flatMap gCo))) (nI (r + 1)) := by
  have e64 : (nI r * 64 + nI En.length : Int32) = nI (r * 64 + En.length) := by
    rw [show (64 : Int32) = nI 64 from rfl, pk_mul, nI_add]
  intro m
  induction m with
  | zero =>
    intro p g t h1 h2
    obtain ⟨g, rfl⟩ : ∃ q, g = q + 1 := ⟨g - 1, by omega⟩
    unfold fn_X7_storedCoins_L17
    rw [(b_state hL).1, grd_true, (b_state hL).2.2.2.2.2.2.2.2.1, lnk_s, lay_a hL 11 101 256 (by decide) rfl, okI_nI (by omega) (by omega), grd_true, nI_clamp (by omega), hn, e64, if_pos ((nI_leW (by omega) (by omega)).mpr (by omega)), show nI r + 1 = nI (r + 1) from nI_add r 1, List.drop_eq_nil_of_le (by omega)]
    rfl
  | succ m ih =>
    intro p g t h1 h2
    obtain ⟨g, rfl⟩ : ∃ q, g = q + 1 := ⟨g - 1, by omega⟩
    have hp : p < En.length := by omega
    obtain ⟨q1, q2, q3⟩ := hE p hp
    have ed : En.drop p = En[p] :: En.drop (p + 1) := List.drop_eq_getElem_cons hp
    unfold fn_X7_storedCoins_L17
    rw [(b_state hL).1, grd_true, (b_state hL).2.2.2.2.2.2.2.2.1, lnk_s, lay_a hL 11 101 256 (by decide) rfl, okI_nI (by omega) (by omega), grd_true, nI_clamp (show r < 2 ^ 31 by omega), hn, e64, if_neg (fun e => by have := (nI_leW (a := r * 64 + En.length) (b := r * 64 + p) (by omega) (by omega)).mp e; omega), (b_state hL).2.2.2.2.2.2.2.2.2.1, lnk_s, lay_a hL 12 100 16384 (by decide) rfl, okI_nI (by omega) (by omega), grd_true, nI_clamp (show r * 64 + p < 2 ^ 31 by omega), q1]
    unfold fn_X7_storedCoins_B57
    have mem : En[p] ∈ En := List.getElem_mem hp
    have k11 := hk _ mem
    have step : ∀ t', fn_X7_storedCoins_L17 F sh n 3 (nI r) ko g y (lN t') (nI (r * 64 + p) + 1) = ko y (lN (t' + nsum ((En.drop (p + 1)).flatMap gCo))) (nI (r + 1)) := fun t' => by
      rw [show nI (r * 64 + p) + 1 = nI (r * 64 + (p + 1)) from nI_add (r * 64 + p) 1]
      exact ih (p + 1) g t' (by omega) (by omega)
    rw [ed, List.flatMap_cons, nsum_app]
    by_cases c : En[p].1 = 10
    · rw [if_pos (show nI En[p].1 = 10 by rw [c]; rfl), (b_state hL).2.2.2.2.2.2.2.2.2.2.2.1, lnk_s, lay_a hL 14 102 16384 (by decide) rfl, okI_nI (by omega) (by omega), grd_true, q3, if_neg (by unfold inn; omega), lt_t, lN_sum]
      refine (step _).trans ?_
      have e : nsum (gCo En[p]) = N En[p].2.2.1 := by
        unfold gCo
        rw [if_pos c]
        show N _ + 0 = _
        omega
      rw [e, Nat.add_assoc]
    · rw [if_neg (show ¬ nI En[p].1 = 10 from fun e => c (nI_uq (b := 10) e (by omega) (by omega))), lt_t, show (lN t + 0 : Int64) = lN t from Int64.add_zero _]
      refine (step _).trans ?_
      have e : nsum (gCo En[p]) = 0 := by
        unfold gCo
        rw [if_neg c]; rfl
      rw [e, Nat.zero_add]
def tsum (h : Nat → Nat) : Nat → Nat → Nat
  | 0, _ => 0
  | m + 1, r => h r + tsum h m (r + 1)
def cSo (so : Nat → Option Rsc) (r : Nat) : Nat := match so r with
  | some x => nsum (x.2.2.flatMap gCo)
  | none => 0
theorem stored_4 (hF : 100 ≤ F) (hL : Lay sh n y) (cg : CLg y nc ac nr so) (hk : ∀ r x, r < 256 → so r = some x → ∀ e, e ∈ x.2.2 → e.1 < 11) : ∀ m r g t, r + m = 256 → m < g → fn_X7_storedCoins_L4 F sh n 3 g y (lN t) (nI r) = some (y, lN (t + tsum (cSo so) m r)) := by
  intro m
  induction m with
  | zero =>
    intro r g t h1 h2
    obtain ⟨g, rfl⟩ : ∃ q, g = q + 1 := ⟨g - 1, by omega⟩
    unfold fn_X7_storedCoins_L4
    rw [if_pos (show (256 : Int32) ≤ nI r from (nI_leW (a := 256) (by omega) (by omega)).mpr (by omega))]; rfl
  | succ m ih =>
    intro r g t h1 h2
    obtain ⟨g, rfl⟩ : ∃ q, g = q + 1 := ⟨g - 1, by omega⟩
    have e64 : (nI r * 64 : Int32) = nI (r * 64 + 0) := by
      rw [show (64 : Int32) = nI 64 from rfl, pk_mul, Nat.add_zero]
    unfold fn_X7_storedCoins_L4
    rw [if_neg (show ¬ (256 : Int32) ≤ nI r from fun e => by have := (nI_leW (a := 256) (b := r) (by omega) (by omega)).mp e; omega), lt_t, e64]
    have ts : tsum (cSo so) (m + 1) r = cSo so r + tsum (cSo so) m (r + 1) := rfl
    rw [ts]
    cases e : so r with
    | none =>
      have z0 := (cg.2.2.2 r (by omega)).1 e
      rw [stored_17 hL cg (by omega) (En := []) z0 (by simp) (fun i h => absurd h (by simp)) (fun x h => absurd h (by simp)) 0 0 F t (by simp) (by omega)]
      show fn_X7_storedCoins_L4 F sh n 3 g y (lN (t + 0)) (nI (r + 1)) = _
      rw [ih (r + 1) g (t + 0) (by omega) (by omega)]
      have : cSo so r = 0 := by unfold cSo; rw [e]
      rw [this, Nat.add_zero, Nat.zero_add]
    | some x =>
      obtain ⟨s1, s2, s3, s4, s5, s6, s7, s8⟩ := (cg.2.2.2 r (by omega)).2 x e
      rw [stored_17 hL cg (by omega) (En := x.2.2) s5 s7 s8 (hk r x (by omega) e) x.2.2.length 0 F t (by omega) (by omega)]
      show fn_X7_storedCoins_L4 F sh n 3 g y (lN (t + nsum (x.2.2.flatMap gCo))) (nI (r + 1)) = _
      rw [ih (r + 1) g _ (by omega) (by omega)]
      have : cSo so r = nsum (x.2.2.flatMap gCo) := by unfold cSo; rw [e]
      rw [this, Nat.add_assoc]
end
