/-! ROUNDS: which structures hold themselves; two ways to see it -/
def cntB : Nat → (Nat → Bool) → Nat
  | 0, _ => 0
  | m + 1, f => cntB m f + (if f m = true then 1 else 0)
theorem cntB_mono {f g : Nat → Bool} (h : ∀ x, f x = true → g x = true) : ∀ m, cntB m f ≤ cntB m g
  | 0 => Nat.le_refl _
  | m + 1 => by
    unfold cntB
    have := cntB_mono h m
    by_cases c : f m = true
    · rw [if_pos c, if_pos (h m c)]; omega
    · rw [if_neg c]; omega
theorem cntB_lt {f g : Nat → Bool} (h : ∀ x, f x = true → g x = true) {y : Nat} (h1 : g y = true) (h2 : ¬ f y = true) : ∀ m, y < m → cntB m f < cntB m g
  | 0, hy => absurd hy (by omega)
  | m + 1, hy => by
    unfold cntB
    by_cases c : y = m
    · subst c
      have := cntB_mono h y
      rw [if_neg h2, if_pos h1]; omega
    · have := cntB_lt h h1 h2 m (by omega)
      by_cases d : f m = true
      · rw [if_pos d, if_pos (h m d)]; omega
      · rw [if_neg d]; omega
theorem cntB_le (f : Nat → Bool) : ∀ m, cntB m f ≤ m
  | 0 => Nat.le_refl _
  | m + 1 => by
    unfold cntB
    have := cntB_le f m
    by_cases c : f m = true
    · rw [if_pos c]; omega
    · rw [if_neg c]; omega
theorem cntB_all {f : Nat → Bool} : ∀ m, m ≤ cntB m f → ∀ x, x < m → f x = true
  | 0, _, x, hx => absurd hx (by omega)
  | m + 1, h, x, hx => by
    unfold cntB at h
    have := cntB_le f m
    by_cases c : f m = true
    · rw [if_pos c] at h
      by_cases d : x = m
      · subst d; exact c
      · exact cntB_all m (by omega) x (by omega)
    · rw [if_neg c] at h; omega
def ClS (A : Nat → Nat → Bool) (C : Nat → Bool) : Prop := ∀ s x, C s = true → A s x = true → C x = true
def hA (M : MP) (s x : Nat) : Bool := holL M.1.length (M.1.getD s dSP).2.2 x
section
variable {M : MP}
theorem holL_lt {own x : Nat} {ts : List Ty} (h : holL own ts x = true) : x < own := by
  unfold holL at h
  obtain ⟨t, _, h2⟩ := List.any_eq_true.mp h
  exact ownT_lt (eq_of_beq h2)
theorem rS1_le {s : Nat} {rs : Nat → Bool} {x : Nat} (h : rs x = true) : rS1 M s rs x = true := by
  unfold rS1
  by_cases c : rs s = true
  · rw [if_pos c]; show (rs x || _) = true; rw [h]; rfl
  · rw [if_neg c]; exact h
theorem rPs_le : ∀ (m s : Nat) {rs : Nat → Bool} {x : Nat}, rs x = true → rPs M m s rs x = true
  | 0, _, _, _, h => h
  | m + 1, s, _, _, h => rPs_le m (s + 1) (rS1_le h)
theorem rPs_st : ∀ (m s : Nat) {rs : Nat → Bool} {x y : Nat}, s ≤ y → y < s + m → rs y = true → hA M y x = true → rPs M m s rs x = true
  | 0, _, _, _, _, h1, h2, _, _ => absurd h2 (by omega)
  | m + 1, s, rs, x, y, h1, h2, h3, h4 => by
    show rPs M m (s + 1) (rS1 M s rs) x = true
    by_cases c : y = s
    · subst c
      refine rPs_le m _ ?_
      unfold rS1
      rw [if_pos h3]
      show (rs x || hA M y x) = true
      rw [h4, Bool.or_true]
    · exact rPs_st m (s + 1) (by omega) (by omega) (rS1_le h3) h4
theorem rPs_snd {C : Nat → Bool} (hC : ClS (hA M) C) : ∀ (m s : Nat) {rs : Nat → Bool}, (∀ x, rs x = true → C x = true) → ∀ x, rPs M m s rs x = true → C x = true
  | 0, _, _, h, x, hx => h x hx
  | m + 1, s, rs, h, x, hx => by
    refine rPs_snd hC m (s + 1) (rs := rS1 M s rs) (fun y hy => ?_) x hx
    unfold rS1 at hy
    by_cases c : rs s = true
    · rw [if_pos c] at hy
      have hy' : (rs y || hA M s y) = true := hy
      rcases Bool.or_eq_true_iff.mp hy' with q | q
      · exact h y q
      · exact hC s y (h s c) q
    · rw [if_neg c] at hy; exact h y hy
theorem rTn_snd {C : Nat → Bool} (hC : ClS (hA M) C) : ∀ (m : Nat) {rs : Nat → Bool}, (∀ x, rs x = true → C x = true) → ∀ x, rTn M m rs x = true → C x = true
  | 0, _, h, x, hx => h x hx
  | m + 1, _, h, x, hx => rTn_snd hC m (rPs_snd hC _ _ h) x hx
theorem rTn_le : ∀ (m : Nat) {rs : Nat → Bool} {x : Nat}, rs x = true → rTn M m rs x = true
  | 0, _, _, h => h
  | m + 1, _, _, h => rTn_le m (rPs_le _ _ h)
theorem rTn_cl : ∀ (m : Nat) {rs : Nat → Bool}, (∀ x, rs x = true → x < M.1.length) → (ClS (hA M) rs ∨ M.1.length ≤ cntB M.1.length rs + m) → ClS (hA M) (rTn M m rs)
  | 0, rs, h, c => by
    rcases c with c | c
    · exact c
    · intro s x _ ha
      exact cntB_all (f := rs) _ (by omega) x (holL_lt ha)
  | m + 1, rs, h, c => by
    have lt : ∀ x, rPs M M.1.length 0 rs x = true → x < M.1.length := fun x hx => by
      have := rPs_snd (M := M) (C := fun x => decide (x < M.1.length)) (fun s y _ ha => decide_eq_true (holL_lt ha)) M.1.length 0 (rs := rs) (fun y hy => decide_eq_true (h y hy)) x hx
      exact of_decide_eq_true this
    refine rTn_cl m lt ?_
    by_cases cl : ClS (hA M) rs
    · left
      intro s x hs ha
      exact rPs_le _ _ (cl s x (rPs_snd cl _ _ (fun _ q => q) s hs) ha)
    · right
      have c2 : M.1.length ≤ cntB M.1.length rs + (m + 1) := by
        rcases c with c | c
        · exact absurd c cl
        · exact c
      obtain ⟨s, cl⟩ := Classical.not_forall.mp cl
      obtain ⟨x, cl⟩ := Classical.not_forall.mp cl
      have hs : rs s = true := Classical.byContradiction (fun q => cl (fun y => absurd y q))
      have ha : hA M s x = true := Classical.byContradiction (fun q => cl (fun _ y => absurd y q))
      have hx : ¬ rs x = true := fun q => cl (fun _ _ => q)
      have := cntB_lt (f := rs) (g := rPs M M.1.length 0 rs) (fun y q => rPs_le _ _ q) (y := x) (rPs_st _ _ (Nat.zero_le _) (by have := h s hs; omega) hs ha) hx M.1.length (holL_lt ha)
      omega
/-- the structure holds itself: in whatever is closed and holds its own -/
theorem isRd_iff (k : Nat) : isRd M k = true ↔ ∀ C : Nat → Bool, ClS (hA M) C → (∀ x, hA M k x = true → C x = true) → C k = true := by
  unfold isRd
  constructor
  · intro h C hC hk
    exact rTn_snd hC _ (fun x hx => hk x (by have hx' : (false || hA M k x) = true := hx; simpa using hx')) k h
  · intro h
    refine h _ (rTn_cl _ (fun x hx => ?_) (.inr (by omega))) (fun x hx => rTn_le _ ?_)
    · have hx' : (false || hA M k x) = true := hx
      have hx2 : hA M k x = true := by simpa using hx'
      exact holL_lt hx2
    · show (false || hA M k x) = true
      rw [hx]; rfl
end
abbrev WR : Type := Nat → Nat → Bool
def wrow (W : WR) (m s : Nat) : WR := if W s m = true then (fun i x => if i = s then W s x || W m x else W i x) else W
def wIn (m : Nat) : Nat → Nat → WR → WR
  | 0, _, W => W
  | k + 1, s, W => wIn m k (s + 1) (wrow W m s)
def wOut (N : Nat) : Nat → Nat → WR → WR
  | 0, _, W => W
  | k + 1, m, W => wOut N k (m + 1) (wIn m N 0 W)
theorem wrow_e (W : WR) (m s i x : Nat) : wrow W m s i x = if i = s then W i x || (W i m && W m x) else W i x := by
  unfold wrow
  by_cases c : W s m = true
  · rw [if_pos c]
    by_cases d : i = s
    · subst d
      show (if i = i then W i x || W m x else W i x) = _
      rw [if_pos rfl, if_pos rfl, c, Bool.true_and]
    · show (if i = s then W s x || W m x else W i x) = _
      rw [if_neg d, if_neg d]
  · rw [if_neg c]
    by_cases d : i = s
    · subst d
      rw [if_pos rfl, Bool.eq_false_iff.mpr c, Bool.false_and, Bool.or_false]
    · rw [if_neg d]
theorem wIn_e (m : Nat) : ∀ (k s : Nat) (W : WR) (i x : Nat), wIn m k s W i x = if s ≤ i ∧ i < s + k then W i x || (W i m && W m x) else W i x
  | 0, s, W, i, x => by
    rw [if_neg (by omega)]; rfl
  | k + 1, s, W, i, x => by
    show wIn m k (s + 1) (wrow W m s) i x = _
    rw [wIn_e m k (s + 1) (wrow W m s) i x]
    have rm : wrow W m s m x = W m x := by
      rw [wrow_e]
      by_cases c : m = s
      · rw [if_pos c]
        cases W m x
        · rw [Bool.and_false]; rfl
        · rfl
      · rw [if_neg c]
    by_cases c : i = s
    · subst c
      rw [if_neg (by omega), if_pos (by omega), wrow_e, if_pos rfl]
    · have e1 : ∀ y, wrow W m s i y = W i y := fun y => by rw [wrow_e, if_neg c]
      rw [e1, e1, rm]
      by_cases d : s + 1 ≤ i ∧ i < s + 1 + k
      · rw [if_pos d, if_pos (by omega)]
      · rw [if_neg d, if_neg (by omega)]
def WI (A : WR) (N m : Nat) (W : WR) : Prop := (∀ s x, A s x = true → W s x = true) ∧ (∀ s C, ClS A C → (∀ x, A s x = true → C x = true) → ∀ x, W s x = true → C x = true) ∧ ∀ y, y < m → ∀ s x, s < N → W s y = true → W y x = true → W s x = true
theorem WI.step {A : WR} {N m : Nat} {W : WR} (h : WI A N m W) (hm : m < N) : WI A N (m + 1) (wIn m N 0 W) := by
  obtain ⟨h1, h2, h3⟩ := h
  have e : ∀ i x, wIn m N 0 W i x = if i < N then W i x || (W i m && W m x) else W i x := fun i x => by
    rw [wIn_e]
    by_cases c : i < N
    · rw [if_pos (by omega), if_pos c]
    · rw [if_neg (by omega), if_neg c]
  have up : ∀ i x, W i x = true → wIn m N 0 W i x = true := fun i x q => by
    rw [e]; split
    · rw [q]; rfl
    · exact q
  have sp : ∀ i x, wIn m N 0 W i x = true → W i x = true ∨ (W i m = true ∧ W m x = true) := fun i x q => by
    rw [e] at q
    split at q
    · rcases Bool.or_eq_true_iff.mp q with q | q
      · exact .inl q
      · exact .inr (Bool.and_eq_true_iff.mp q)
    · exact .inl q
  have dn : ∀ i x, i < N → W i m = true → W m x = true → wIn m N 0 W i x = true := fun i x hi q1 q2 => by
    rw [e, if_pos hi, q1, q2]; simp
  refine ⟨fun s x q => up s x (h1 s x q), fun s C hC hk x q => ?_, fun y hy s x hs q1 q2 => ?_⟩
  · rcases sp s x q with q | ⟨q1, q2⟩
    · exact h2 s C hC hk x q
    · have mC := h2 s C hC hk m q1
      exact h2 m C hC (fun y ha => hC m y mC ha) x q2
  · rcases sp s y q1 with p1 | ⟨p1, p1'⟩
    · rcases sp y x q2 with p2 | ⟨p2, p2'⟩
      · by_cases c : y < m
        · exact up s x (h3 y c s x hs p1 p2)
        · have : y = m := by omega
          subst this
          exact dn s x hs p1 p2
      · by_cases c : y < m
        · exact dn s x hs (h3 y c s m hs p1 p2) p2'
        · have : y = m := by omega
          subst this
          exact dn s x hs p1 p2'
    · rcases sp y x q2 with p2 | ⟨p2, p2'⟩
      · by_cases c : y < m
        · exact dn s x hs p1 (h3 y c m x hm p1' p2)
        · have : y = m := by omega
          subst this
          exact dn s x hs p1 p2
      · exact dn s x hs p1 p2'
theorem WI.out {A : WR} {N : Nat} : ∀ (k m : Nat) {W : WR}, m + k = N → WI A N m W → WI A N N (wOut N k m W)
  | 0, m, W, e, h => by
    have : m = N := by omega
    subst this; exact h
  | k + 1, m, W, e, h => WI.out k (m + 1) (by omega) (h.step (by omega))
theorem wOut_rd {M : MP} {k : Nat} (hk : k < M.1.length) : wOut M.1.length M.1.length 0 (hA M) k k = isRd M k := by
  have w : WI (hA M) M.1.length M.1.length (wOut M.1.length M.1.length 0 (hA M)) := WI.out _ 0 (by omega) ⟨fun _ _ q => q, fun s C _ hk x q => hk x q, fun y hy => absurd hy (by omega)⟩
  obtain ⟨w1, w2, w3⟩ := w
  rw [Bool.eq_iff_iff, isRd_iff]
  constructor
  · intro h C hC hk
    exact w2 k C hC hk k h
  · intro h
    refine h (wOut M.1.length M.1.length 0 (hA M) k) (fun s x hs ha => ?_) (fun x hx => w1 k x hx)
    have sl : s < M.1.length := by
      have := w2 k (fun x => decide (x < M.1.length)) (fun s y _ ha => decide_eq_true (holL_lt ha)) (fun x hx => decide_eq_true (holL_lt hx)) s hs
      exact of_decide_eq_true this
    exact w3 s sl k x hk hs (w1 s x ha)
