/-! DEPTHS ARE A FIXPOINT where no structure holds itself -/
def jac (M : MP) (D : Nat → Nat) : Nat → Nat := fun x => if x < M.1.length then mxD D (M.1.getD x dSP).2.2 0 + 1 else D x
def jacT (M : MP) (D : Nat → Nat) : Nat → Nat → Nat
  | 0 => D
  | p + 1 => jac M (jacT M D p)
/-- a chain of structures, each held by the one before -/
def Chn (M : MP) : Nat → Nat → Prop
  | 0, s => s < M.1.length
  | p + 1, s => s < M.1.length ∧ ∃ s', hA M s s' = true ∧ Chn M p s'
theorem dT_mono {D E : Nat → Nat} (h : ∀ x, D x ≤ E x) (t : Ty) : dT D t ≤ dT E t := by
  unfold dT
  cases endS t with
  | none => exact Nat.le_refl _
  | some s => have := h s; show D s + _ ≤ E s + _; omega
theorem mxD_mono {D E : Nat → Nat} (h : ∀ x, D x ≤ E x) : ∀ (ts : List Ty) (m k : Nat), m ≤ k → mxD D ts m ≤ mxD E ts k
  | [], m, k, hm => hm
  | t :: ts, m, k, hm => by
    have := dT_mono h t
    refine mxD_mono h ts _ _ ?_
    split <;> split <;> omega
theorem mxD_ge {D : Nat → Nat} : ∀ (ts : List Ty) (m : Nat), m ≤ mxD D ts m ∧ ∀ t, t ∈ ts → dT D t ≤ mxD D ts m
  | [], m => ⟨Nat.le_refl _, fun t ht => by cases ht⟩
  | x :: ts, m => by
    obtain ⟨h1, h2⟩ := mxD_ge (D := D) ts (if m < dT D x then dT D x else m)
    refine ⟨Nat.le_trans (by split <;> omega) h1, fun t ht => ?_⟩
    rcases List.mem_cons.mp ht with q | q
    · subst q; exact Nat.le_trans (by split <;> omega) h1
    · exact h2 t q
theorem mxD_eq {D E : Nat → Nat} : ∀ (ts : List Ty) (m : Nat), (∀ t, t ∈ ts → dT D t = dT E t) → mxD D ts m = mxD E ts m
  | [], m, _ => rfl
  | t :: ts, m, h => by
    show mxD D ts (if m < dT D t then dT D t else m) = mxD E ts (if m < dT E t then dT E t else m)
    rw [h t (by simp)]
    exact mxD_eq ts _ (fun x hx => h x (by simp [hx]))
section
variable {M : MP} {b : Nat → Nat} {D E : Nat → Nat}
theorem jac_mono (h : ∀ x, D x ≤ E x) : ∀ x, jac M D x ≤ jac M E x := fun x => by
  unfold jac
  by_cases c : x < M.1.length
  · rw [if_pos c, if_pos c]
    have := mxD_mono h (M.1.getD x dSP).2.2 0 0 (Nat.le_refl _)
    omega
  · rw [if_neg c, if_neg c]; exact h x
theorem mS1_j {s : Nat} (hs : s < M.1.length) : ∀ x, mS1 (mdOf b M) D s x = if x = s then jac M D s else D x := fun x => by
  unfold mS1 jac
  rw [if_pos hs]; rfl
/-- a pass from below stays below, and does as much as a step of all at once -/
theorem mPs_low (h : ∀ x, D x ≤ jac M D x) : ∀ (r s : Nat) (E : Nat → Nat), s + r = M.1.length → (∀ x, D x ≤ E x) → (∀ x, E x ≤ jac M E x) → (∀ x, x < s → jac M D x ≤ E x) → (∀ x, E x ≤ mPs (mdOf b M) r s E x) ∧ (∀ x, mPs (mdOf b M) r s E x ≤ jac M (mPs (mdOf b M) r s E) x) ∧ ∀ x, x < M.1.length → jac M D x ≤ mPs (mdOf b M) r s E x
  | 0, s, E, es, h1, h2, h3 => ⟨fun _ => Nat.le_refl _, h2, fun x hx => h3 x (by omega)⟩
  | r + 1, s, E, es, h1, h2, h3 => by
    have hs : s < M.1.length := by omega
    have e := mS1_j (b := b) (D := E) hs
    have up : ∀ x, E x ≤ mS1 (mdOf b M) E s x := fun x => by
      rw [e]
      by_cases c : x = s
      · rw [if_pos c, c]; exact h2 s
      · rw [if_neg c]; exact Nat.le_refl _
    have g2 : ∀ x, mS1 (mdOf b M) E s x ≤ jac M (mS1 (mdOf b M) E s) x := fun x => by
      have jm := jac_mono (M := M) up
      have ex := e x
      by_cases c : x = s
      · rw [if_pos c] at ex; rw [ex, c]; exact jm s
      · rw [if_neg c] at ex; rw [ex]; exact Nat.le_trans (h2 x) (jm x)
    have g3 : ∀ x, x < s + 1 → jac M D x ≤ mS1 (mdOf b M) E s x := fun x hx => by
      by_cases c : x = s
      · rw [e, if_pos c, c]; exact jac_mono h1 s
      · rw [e, if_neg c]; exact h3 x (by omega)
    obtain ⟨q1, q2, q3⟩ := mPs_low h r (s + 1) (mS1 (mdOf b M) E s) (by omega) (fun x => Nat.le_trans (h1 x) (up x)) g2 g3
    exact ⟨fun x => Nat.le_trans (up x) (q1 x), q2, q3⟩
theorem mPs_hi {X : Nat → Nat} (hX : ∀ x, jac M X x = X x) : ∀ (r s : Nat) (E : Nat → Nat), s + r = M.1.length → (∀ x, E x ≤ X x) → ∀ x, mPs (mdOf b M) r s E x ≤ X x
  | 0, _, E, _, h, x => h x
  | r + 1, s, E, es, h, x => by
    refine mPs_hi hX r (s + 1) (mS1 (mdOf b M) E s) (by omega) (fun y => ?_) x
    rw [mS1_j (by omega)]
    by_cases c : y = s
    · rw [if_pos c, ← hX y, c]; exact jac_mono h s
    · rw [if_neg c]; exact h y
theorem mTn_low : ∀ (r p : Nat) (D0 E : Nat → Nat), (∀ x, D0 x ≤ jac M D0 x) → (∀ x, E x ≤ jac M E x) → (∀ x, jacT M D0 p x ≤ E x) → ∀ x, jacT M D0 (p + r) x ≤ mTn (mdOf b M) M.1.length r E x
  | 0, p, D0, E, h0, h1, h2, x => h2 x
  | r + 1, p, D0, E, h0, h1, h2, x => by
    obtain ⟨q1, q2, q3⟩ := mPs_low (b := b) h1 M.1.length 0 E (by omega) (fun _ => Nat.le_refl _) h1 (fun y hy => absurd hy (by omega))
    have := mTn_low r (p + 1) D0 (mPs (mdOf b M) M.1.length 0 E) h0 q2 (fun y => by
      have j := jac_mono (M := M) h2 y
      show jac M (jacT M D0 p) y ≤ _
      by_cases c : y < M.1.length
      · exact Nat.le_trans j (q3 y c)
      · have e1 : jac M (jacT M D0 p) y = jacT M D0 p y := by unfold jac; rw [if_neg c]
        rw [e1]
        exact Nat.le_trans (h2 y) (q1 y)) x
    rw [show p + (r + 1) = p + 1 + r by omega]
    exact this
theorem mTn_hi {X : Nat → Nat} (hX : ∀ x, jac M X x = X x) : ∀ (r : Nat) (E : Nat → Nat), (∀ x, E x ≤ X x) → ∀ x, mTn (mdOf b M) M.1.length r E x ≤ X x
  | 0, E, h, x => h x
  | r + 1, E, h, x => mTn_hi hX r _ (mPs_hi hX M.1.length 0 E (by omega) h) x
/-- what has not come to rest hangs on a chain -/
theorem chnS_of : ∀ (p s : Nat) (D0 : Nat → Nat), s < M.1.length → jacT M D0 (p + 1) s ≠ jacT M D0 p s → Chn M p s
  | 0, s, D0, hs, _ => hs
  | p + 1, s, D0, hs, h => by
    refine ⟨hs, Classical.byContradiction (fun no => h ?_)⟩
    show jac M (jacT M D0 (p + 1)) s = jac M (jacT M D0 p) s
    unfold jac
    rw [if_pos hs, if_pos hs]
    congr 1
    refine mxD_eq _ _ (fun t ht => ?_)
    unfold dT
    cases e : endS t with
    | none => rfl
    | some y =>
      show jacT M D0 (p + 1) y + (t.length - 2) = jacT M D0 p y + (t.length - 2)
      congr 1
      by_cases c : y < M.1.length
      · refine Classical.byContradiction (fun q => no ⟨y, ?_, chnS_of p y D0 c q⟩)
        unfold hA holL
        refine List.any_eq_true.mpr ⟨t, ht, ?_⟩
        unfold ownT
        rw [e]
        show ((if y < M.1.length then some y else none) == some y) = true
        rw [if_pos c]
        exact beq_self_eq_true _
      · show jac M (jacT M D0 p) y = _
        unfold jac
        rw [if_neg c]
theorem chn_no (hR : ∀ k, k < M.1.length → isRd M k = false) : ∀ (p s : Nat) (V : Nat → Bool), Chn M p s → (∀ y, V y = true → ∀ C : Nat → Bool, ClS (hA M) C → (∀ x, hA M y x = true → C x = true) → C s = true) → cntB M.1.length V + p + 1 ≤ M.1.length := by
  intro p
  induction p with
  | zero =>
    intro s V hc hV
    have hs : s < M.1.length := hc
    have ns : ¬ V s = true := fun q => by
      have := (isRd_iff s).mpr (hV s q)
      rw [hR s hs] at this; cases this
    have := cntB_lt (f := V) (g := fun x => V x || decide (x = s)) (fun x q => by show (V x || _) = true; rw [q]; rfl) (y := s) (by simp) ns M.1.length hs
    have l := cntB_le (fun x => V x || decide (x = s)) M.1.length
    omega
  | succ p ih =>
    intro s V hc hV
    obtain ⟨hs, s', h1, h2⟩ := hc
    have ns : ¬ V s = true := fun q => by
      have := (isRd_iff s).mpr (hV s q)
      rw [hR s hs] at this; cases this
    have lt := cntB_lt (f := V) (g := fun x => V x || decide (x = s)) (fun x q => by show (V x || _) = true; rw [q]; rfl) (y := s) (by simp) ns M.1.length hs
    have := ih s' (fun x => V x || decide (x = s)) h2 (fun y hy C hC hk => by
      have hy' : (V y || decide (y = s)) = true := hy
      rcases Bool.or_eq_true_iff.mp hy' with q | q
      · exact hC s s' (hV y q C hC hk) h1
      · have : y = s := of_decide_eq_true q
        subst this
        exact hk s' h1)
    omega
theorem jRd_n : ∀ (m k : Nat), jRd M m k = none → ∀ s, k ≤ s → s < k + m → isRd M s = false
  | 0, k, _, s, h1, h2 => absurd h2 (by omega)
  | m + 1, k, h, s, h1, h2 => by
    unfold jRd at h
    cases e : isRd M k with
    | true => rw [e, if_pos rfl] at h; cases h
    | false =>
      rw [e, if_neg (by simp)] at h
      by_cases c : s = k
      · subst c; exact e
      · exact jRd_n m (k + 1) h s (by omega) (by omega)
/-- measuring comes to rest -/
theorem mTn_fix (hR : ∀ k, k < M.1.length → isRd M k = false) (h0 : ∀ x, D x ≤ jac M D x) : ∀ x, jac M (mTn (mdOf b M) M.1.length M.1.length D) x = mTn (mdOf b M) M.1.length M.1.length D x := by
  have hX : ∀ x, jac M (jacT M D M.1.length) x = jacT M D M.1.length x := fun x => by
    by_cases c : x < M.1.length
    · refine Classical.byContradiction (fun q => ?_)
      have := chn_no hR M.1.length x (fun _ => false) (chnS_of M.1.length x D c q) (fun y hy => by cases hy)
      omega
    · unfold jac; rw [if_neg c]
  have inc : ∀ p x, D x ≤ jacT M D p x := fun p => by
    induction p with
    | zero => intro x; exact Nat.le_refl _
    | succ p ih => intro x; exact Nat.le_trans (h0 x) (jac_mono ih x)
  have lo := mTn_low (b := b) M.1.length 0 D D h0 h0 (fun _ => Nat.le_refl _)
  have hi := mTn_hi (b := b) hX M.1.length D (inc M.1.length)
  have eq : mTn (mdOf b M) M.1.length M.1.length D = jacT M D M.1.length := by
    funext x
    have l := lo x
    rw [Nat.zero_add] at l
    exact Nat.le_antisymm (hi x) l
  rw [eq]
  exact hX
end
