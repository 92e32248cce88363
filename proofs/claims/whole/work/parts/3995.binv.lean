/-! BORROWING: how the invariant goes on -/
section
variable {H : Hp} {Lv : Nat → Nat → Nat → Option Nat} {Rf : Nat → Sl → Prop} {gh : Nat → Nat → Option Sl} {rs : Nat → Bool} {rb : Nat → Nat → Nat}
theorem RefOk.heap {H' : Hp} {d : Nat} {s : Sl} (h : RefOk H Lv gh rs rb d s) (hs : ∀ x, Sub H x s.1 → Sub H' x s.1) : RefOk H' Lv gh rs rb d s := by
  obtain ⟨b, hb, q | q | q⟩ := h
  · obtain ⟨h0, X, h1, h2, h3⟩ := q
    exact ⟨b, hb, .inl ⟨h0, X, h1, hs _ h2, h3⟩⟩
  · obtain ⟨h0, h1, h2, g, h3, h4, h5, h6⟩ := q
    exact ⟨b, hb, .inr (.inl ⟨h0, h1, h2, g, h3, h4, hs _ h5, h6⟩)⟩
  · obtain ⟨h0, h1, j, X, h2, h3, h4, h5⟩ := q
    exact ⟨b, hb, .inr (.inr ⟨h0, h1, j, X, h2, h3, hs _ h4, h5⟩)⟩
/-- the heap changes within a region -/
theorem BInv.heap (I : BInv H Lv Rf gh rs rb) {H' : Hp} (f' : Fo H') {R E : Nat → Prop} (h1 : ∀ y, ¬ R y → kds H' y = kds H y) (h2 : ∀ y, R y → ∀ c, c ∈ kds H' y → R c ∧ ¬ E c) (h3 : ∀ y, R y → ∀ c, c ∈ kds H y → R c ∧ ¬ E c) (hs : ∀ d s, Rf d s → ¬ R s.1 ∨ E s.1) (hrt : ∀ a d k X, Lv a d k = some X → Rt H' X) : BInv H' Lv Rf gh rs rb := by
  obtain ⟨_, _, inj, ro, r⟩ := I
  exact ⟨f', hrt, inj, fun d s q => (ro d s q).heap (fun x => (Sub.reg h1 h2 h3 (hs d s q)).mpr), r⟩
theorem RefOk.lv {Lv' : Nat → Nat → Nat → Option Nat} {d : Nat} {s : Sl} (h : RefOk H Lv gh rs rb d s) (hk : ∀ a e k X, a ≠ 0 → Lv a e k = some X → Sub H X s.1 → (a = 1 → e = d) → Lv' a e k = some X) : RefOk H Lv' gh rs rb d s := by
  obtain ⟨b, hb, q | q | q⟩ := h
  · obtain ⟨h0, X, h1, h2, h3⟩ := q
    exact ⟨b, hb, .inl ⟨h0, X, hk _ _ _ _ (by decide) h1 h2 (fun _ => rfl), h2, h3⟩⟩
  · exact ⟨b, hb, .inr (.inl q)⟩
  · obtain ⟨h0, h1, j, X, h2, h3, h4, h5⟩ := q
    exact ⟨b, hb, .inr (.inr ⟨h0, h1, j, X, hk _ _ _ _ (by decide) h2 h4 (fun q => absurd q (by decide)), h3, h4, h5⟩)⟩
/-- values are laid elsewhere -/
theorem BInv.lv (I : BInv H Lv Rf gh rs rb) {Lv' : Nat → Nat → Nat → Option Nat} (hrt : ∀ a d k X, Lv' a d k = some X → Rt H X) (hinj : ∀ a d k a' d' k' X, Lv' a d k = some X → Lv' a' d' k' = some X → a = a' ∧ d = d' ∧ k = k') (hk : ∀ a d k X, a ≠ 0 → Lv a d k = some X → Lv' a d k = some X ∨ ∀ e s, Rf e s → ¬ Sub H X s.1) : BInv H Lv' Rf gh rs rb := by
  obtain ⟨f, _, _, ro, r⟩ := I
  refine ⟨f, hrt, hinj, fun d s q => (ro d s q).lv (fun a e k X h0 h1 h2 _ => ?_), r⟩
  rcases hk a e k X h0 h1 with h | h
  · exact h
  · exact absurd h2 (h d s q)
def upL (Lv : Nat → Nat → Nat → Option Nat) (a d k : Nat) (x : Option Nat) : Nat → Nat → Nat → Option Nat := fun a' d' k' => if a' = a ∧ d' = d ∧ k' = k then x else Lv a' d' k'
theorem upL_s (a d k : Nat) (x : Option Nat) : upL Lv a d k x a d k = x := by simp [upL]
theorem upL_n {a d k a' d' k' : Nat} {x : Option Nat} (h : ¬ (a' = a ∧ d' = d ∧ k' = k)) : upL Lv a d k x a' d' k' = Lv a' d' k' := by simp only [upL, if_neg h]
/-- no reference goes into a value on a stack or in hands -/
theorem BInv.free (I : BInv H Lv Rf gh rs rb) {a d k X : Nat} (hX : Lv a d k = some X) (ha : a ≠ 1) (ha2 : a ≠ 2) : ∀ e s, Rf e s → ¬ Sub H X s.1 := by
  intro n
  induction n with
  | zero =>
    intro s hs h
    obtain ⟨b, hb, q | q | q⟩ := I.2.2.2.1 0 s hs
    · obtain ⟨_, Z, z1, z2, _⟩ := q
      have eX := Sub.roots I.1 (I.2.1 _ _ _ _ hX) (I.2.1 _ _ _ _ z1) h z2
      subst eX
      exact ha (I.2.2.1 _ _ _ _ _ _ _ hX z1).1
    · exact absurd q.2.2.1 (by omega)
    · obtain ⟨_, _, j, Z, z1, _, z2, _⟩ := q
      have eX := Sub.roots I.1 (I.2.1 _ _ _ _ hX) (I.2.1 _ _ _ _ z1) h z2
      subst eX
      exact ha2 (I.2.2.1 _ _ _ _ _ _ _ hX z1).1
  | succ n ih =>
    intro s hs h
    obtain ⟨b, hb, q | q | q⟩ := I.2.2.2.1 _ s hs
    · obtain ⟨_, Z, z1, z2, _⟩ := q
      have eX := Sub.roots I.1 (I.2.1 _ _ _ _ hX) (I.2.1 _ _ _ _ z1) h z2
      subst eX
      exact ha (I.2.2.1 _ _ _ _ _ _ _ hX z1).1
    · obtain ⟨_, _, _, g, hg, _, z2, _⟩ := q
      exact ih g (by have := I.2.2.2.2.1 _ _ _ hg; simpa using this) (h.up I.1 (I.2.1 _ _ _ _ hX) z2)
    · obtain ⟨_, _, j, Z, z1, _, z2, _⟩ := q
      have eX := Sub.roots I.1 (I.2.1 _ _ _ _ hX) (I.2.1 _ _ _ _ z1) h z2
      subst eX
      exact ha2 (I.2.2.1 _ _ _ _ _ _ _ hX z1).1
/-- a value goes out of a place -/
theorem BInv.out (I : BInv H Lv Rf gh rs rb) (a d k : Nat) (h : a = 0 ∨ a = 3 ∨ ∀ X, Lv a d k = some X → ∀ e s, Rf e s → ¬ Sub H X s.1) : BInv H (upL Lv a d k none) Rf gh rs rb := by
  have old : ∀ a' d' k' X, upL Lv a d k none a' d' k' = some X → Lv a' d' k' = some X := by
    intro a' d' k' X q
    by_cases c : a' = a ∧ d' = d ∧ k' = k
    · simp only [upL, if_pos c] at q; exact absurd q (by simp)
    · rw [upL_n c] at q; exact q
  refine I.lv (fun a d k X q => I.2.1 _ _ _ _ (old _ _ _ _ q)) (fun a d k a' d' k' X q q' => I.2.2.1 _ _ _ _ _ _ _ (old _ _ _ _ q) (old _ _ _ _ q')) (fun a' d' k' X h0 h1 => ?_)
  by_cases c : a' = a ∧ d' = d ∧ k' = k
  · obtain ⟨c1, c2, c3⟩ := c
    subst c1 c2 c3
    right
    rcases h with h | h | h
    · exact absurd h h0
    · exact I.free h1 (by omega) (by omega)
    · exact h X h1
  · rw [upL_n c]; exact .inl h1
/-- a value comes into an empty place -/
theorem BInv.inn (I : BInv H Lv Rf gh rs rb) (a d k : Nat) {X : Nat} (h0 : Lv a d k = none) (hX : Rt H X) (hn : ∀ a d k, Lv a d k ≠ some X) : BInv H (upL Lv a d k (some X)) Rf gh rs rb := by
  refine I.lv ?_ ?_ ?_
  · intro a' d' k' Y q
    by_cases c : a' = a ∧ d' = d ∧ k' = k
    · simp only [upL, if_pos c, Option.some.injEq] at q; rw [← q]; exact hX
    · rw [upL_n c] at q; exact I.2.1 _ _ _ _ q
  · intro a1 d1 k1 a2 d2 k2 Y q q'
    by_cases c : a1 = a ∧ d1 = d ∧ k1 = k
    · by_cases c' : a2 = a ∧ d2 = d ∧ k2 = k
      · exact ⟨by rw [c.1, c'.1], by rw [c.2.1, c'.2.1], by rw [c.2.2, c'.2.2]⟩
      · simp only [upL, if_pos c, Option.some.injEq] at q
        rw [upL_n c', ← q] at q'
        exact absurd q' (hn _ _ _)
    · by_cases c' : a2 = a ∧ d2 = d ∧ k2 = k
      · simp only [upL, if_pos c', Option.some.injEq] at q'
        rw [upL_n c, ← q'] at q
        exact absurd q (hn _ _ _)
      · rw [upL_n c] at q
        rw [upL_n c'] at q'
        exact I.2.2.1 _ _ _ _ _ _ _ q q'
  · intro a' d' k' Y _ q
    by_cases c : a' = a ∧ d' = d ∧ k' = k
    · obtain ⟨c1, c2, c3⟩ := c
      subst c1 c2 c3
      rw [h0] at q
      exact absurd q (by simp)
    · rw [upL_n c]; exact .inl q
/-- the references of the topmost frame change -/
theorem BInv.rf (I : BInv H Lv Rf gh rs rb) {Rf' : Nat → Sl → Prop} (d : Nat) (hg : ∀ k, gh d k = none) (hr : rs (d + 1) = false) (h1 : ∀ e s, e ≠ d → (Rf' e s ↔ Rf e s)) (h2 : ∀ s, Rf' d s → Rf d s ∨ RefOk H Lv gh rs rb d s) : BInv H Lv Rf' gh rs rb := by
  obtain ⟨f, rt, inj, ro, g5, g6, g7, g8⟩ := I
  refine ⟨f, rt, inj, fun e s q => ?_, fun e k g q => ?_, fun e k g q h9 s hs => ?_, g7, fun e q => ?_⟩
  · by_cases c : e = d
    · subst c
      rcases h2 s q with h | h
      · exact ro _ _ h
      · exact h
    · exact ro _ _ ((h1 e s c).mp q)
  · by_cases c : e = d
    · subst c; rw [hg k] at q; exact absurd q (by simp)
    · exact (h1 e g c).mpr (g5 _ _ _ q)
  · by_cases c : e = d
    · subst c; rw [hg k] at q; exact absurd q (by simp)
    · exact g6 _ _ _ q h9 s ((h1 e s c).mp hs)
  · by_cases c : e = d
    · subst c; rw [hr] at q; exact absurd q (by simp)
    · exact ⟨(g8 e q).1, fun s hs => (g8 e q).2 s ((h1 e s c).mp hs)⟩
/-- a call: a frame more; what was given as references stays with the caller -/
theorem BInv.call (I : BInv H Lv Rf gh rs rb) {Rf' : Nat → Sl → Prop} {gh' : Nat → Nat → Option Sl} {rs' : Nat → Bool} (d : Nat) (hg0 : ∀ k, gh (d + 1) k = none) (hr2 : rs (d + 2) = false) (hR2 : ∀ s, ¬ Rf (d + 1) s) (e1 : ∀ e k, e ≠ d → gh' e k = gh e k) (e2 : ∀ e, e ≠ d + 1 → rs' e = rs e) (e3 : ∀ e s, e ≠ d + 1 → (Rf' e s ↔ Rf e s)) (g5 : ∀ k g, gh' d k = some g → k < 8 ∧ Rf d g) (g6 : ∀ k g, gh' d k = some g → g.2.1 = 9 → ∀ s, Rf d s → s = g ∨ (mt s.2.2.2.1 g.2.2.2.1 → s.2.1 = 9 ∧ s.2.2.2.2 = false)) (g7 : ∀ k j g g', gh' d k = some g → gh' d j = some g' → j ≠ k → g.2.1 = 9 → ¬ mt g'.2.2.2.1 g.2.2.2.1) (g8 : rs' (d + 1) = true → rs d = true ∧ ∀ s, Rf d s → ∀ b, 48 ≤ b → ob s.2.2.2.1 b = false) (e4 : ∀ s, Rf' (d + 1) s → ∃ k g, gh' d k = some g ∧ s.1 = g.1 ∧ s.2.1 = g.2.1 ∧ ob s.2.2.2.1 (40 + k) = true) : BInv H Lv Rf' gh' rs' rb := by
  obtain ⟨f, rt, inj, ro, i5, i6, i7, i8⟩ := I
  refine ⟨f, rt, inj, fun e s q => ?_, fun e k g q => ?_, fun e k g q h9 s hs => ?_, fun e k j g g' q q' hj h9 => ?_, fun e q => ?_⟩
  · by_cases c : e = d + 1
    · subst c
      obtain ⟨k, g, h1, h2, h3, h4⟩ := e4 s q
      have := (g5 k g h1).1
      refine ⟨40 + k, h4, .inr (.inl ⟨by omega, by omega, by omega, g, ?_, fun h => by rw [← h3]; exact h, by rw [h2]; exact Sub.refl H g.1, fun _ => h2⟩)⟩
      rw [show d + 1 - 1 = d by omega, show 40 + k - 40 = k by omega]
      exact h1
    · have hRe := (e3 e s c).mp q
      obtain ⟨b, hb, q | q | q⟩ := ro e s hRe
      · exact ⟨b, hb, .inl q⟩
      · obtain ⟨a1, a2, a3, g, a4, a5⟩ := q
        by_cases c2 : e - 1 = d
        · exact absurd (show e = d + 1 by omega) c
        · exact ⟨b, hb, .inr (.inl ⟨a1, a2, a3, g, by rw [e1 _ _ c2]; exact a4, a5⟩)⟩
      · obtain ⟨a1, a2, a3⟩ := q
        exact ⟨b, hb, .inr (.inr ⟨a1, by rw [e2 e c]; exact a2, a3⟩)⟩
  · by_cases c : e = d
    · subst c; exact (e3 _ _ (by omega)).mpr (g5 k g q).2
    · rw [e1 e k c] at q
      by_cases c2 : e = d + 1
      · subst c2; rw [hg0 k] at q; exact absurd q (by simp)
      · exact (e3 _ _ c2).mpr (i5 _ _ _ q)
  · by_cases c : e = d
    · subst c; exact g6 k g q h9 s ((e3 _ _ (by omega)).mp hs)
    · rw [e1 e k c] at q
      by_cases c2 : e = d + 1
      · subst c2; rw [hg0 k] at q; exact absurd q (by simp)
      · exact i6 _ _ _ q h9 s ((e3 _ _ c2).mp hs)
  · by_cases c : e = d
    · subst c; exact g7 k j g g' q q' hj h9
    · rw [e1 e _ c] at q q'
      exact i7 _ _ _ _ _ q q' hj h9
  · by_cases c : e = d
    · subst c
      obtain ⟨a1, a2⟩ := g8 q
      exact ⟨by rw [e2 _ (by omega)]; exact a1, fun s hs => a2 s ((e3 _ _ (by omega)).mp hs)⟩
    · by_cases c2 : e = d + 1
      · subst c2
        rw [e2 _ (by omega), hr2] at q
        exact absurd q (by simp)
      · rw [e2 _ (by omega)] at q
        obtain ⟨a1, a2⟩ := i8 e q
        exact ⟨by rw [e2 _ c2]; exact a1, fun s hs => a2 s ((e3 _ _ c2).mp hs)⟩
/-- a return: the topmost frame goes; references that it gives point below what was given to it -/
theorem BInv.ret (I : BInv H Lv Rf gh rs rb) {Lv' : Nat → Nat → Nat → Option Nat} {Rf' : Nat → Sl → Prop} {gh' : Nat → Nat → Option Sl} {rs' : Nat → Bool} (d : Nat) (hr2 : rs (d + 2) = false) (hrt : ∀ a e k X, Lv' a e k = some X → Rt H X) (hinj : ∀ a e k a' e' k' X, Lv' a e k = some X → Lv' a' e' k' = some X → a = a' ∧ e = e' ∧ k = k') (hk : ∀ a e k X, a ≠ 0 → (a = 1 → e ≤ d) → Lv a e k = some X → Lv' a e k = some X) (e1 : ∀ e k, e ≠ d → gh' e k = gh e k) (hg0 : ∀ e k, d < e → gh e k = none) (e2 : ∀ k, gh' d k = none) (e3 : ∀ e, e ≠ d + 1 → rs' e = rs e) (e4 : rs' (d + 1) = false) (e5 : ∀ e s, e < d → (Rf' e s ↔ Rf e s)) (e6 : ∀ e s, d < e → ¬ Rf' e s) (e7 : ∀ s, Rf' d s → Rf d s ∨ ∃ q, Rf (d + 1) q ∧ q.1 = s.1 ∧ q.2.1 = s.2.1 ∧ s.2.2.2.2 = true ∧ (∀ b, ob q.2.2.2.1 b = true → 40 ≤ b ∧ b < 48) ∧ ∀ k g, gh d k = some g → (s.2.1 = 9 → g.2.1 = 9) → ∀ b, ob g.2.2.2.1 b = true → ob s.2.2.2.1 b = true) : BInv H Lv' Rf' gh' rs' rb := by
  obtain ⟨f, rt, inj, ro, i5, i6, i7, i8⟩ := I
  have tr : ∀ e s, e ≤ d → RefOk H Lv gh rs rb e s → RefOk H Lv' gh' rs' rb e s := by
    intro e s he ⟨b, hb, q⟩
    refine ⟨b, hb, ?_⟩
    rcases q with q | q | q
    · obtain ⟨h0, X, h1, h2, h3⟩ := q
      exact .inl ⟨h0, X, hk _ _ _ _ (by decide) (fun _ => he) h1, h2, h3⟩
    · obtain ⟨a1, a2, a3, g, a4, a5⟩ := q
      exact .inr (.inl ⟨a1, a2, a3, g, by rw [e1 _ _ (by omega)]; exact a4, a5⟩)
    · obtain ⟨h0, h1, j, X, h2, h3, h4⟩ := q
      exact .inr (.inr ⟨h0, by rw [e3 _ (by omega)]; exact h1, j, X, hk _ _ _ _ (by decide) (fun q => absurd q (by decide)) h2, h3, h4⟩)
  refine ⟨f, hrt, hinj, fun e s q => ?_, fun e k g q => ?_, fun e k g q h9 s hs => ?_, fun e k j g g' q q' hj h9 => ?_, fun e q => ?_⟩
  · by_cases c : e < d
    · exact tr e s (by omega) (ro _ _ ((e5 e s c).mp q))
    · by_cases c2 : e = d
      · subst c2
        rcases e7 s q with h | ⟨t, t1, t2, t3, t4, t5, t6⟩
        · exact tr _ s (Nat.le_refl _) (ro _ _ h)
        · obtain ⟨b, hb, q⟩ := ro _ t t1
          have hb4 := t5 b hb
          rcases q with q | q | q
          · exact absurd q.1 (by omega)
          · obtain ⟨a1, a2, a3, g, a4, a5, a6, _⟩ := q
            rw [show e + 1 - 1 = e by omega] at a4
            have sg : s.2.1 = 9 → g.2.1 = 9 := fun h => a5 (t3.trans h)
            obtain ⟨b', hb', q⟩ := tr e g (Nat.le_refl _) (ro _ _ (i5 _ _ _ a4))
            refine ⟨b', t6 _ g a4 sg b' hb', ?_⟩
            rw [← t2]
            rcases q with q | q | q
            · obtain ⟨h0, X, h1, h2, h3⟩ := q
              exact .inl ⟨h0, X, h1, h2.trans a6, fun h => by rw [t4] at h; exact absurd h (by decide)⟩
            · obtain ⟨c1, c2, c3, g2, c4, c5, c6, c7⟩ := q
              exact .inr (.inl ⟨c1, c2, c3, g2, c4, fun h => c5 (sg h), c6.trans a6, fun h => by rw [t4] at h; exact absurd h (by decide)⟩)
            · obtain ⟨h0, h1, j, X, h2, h3, h4, _⟩ := q
              exact .inr (.inr ⟨h0, h1, j, X, h2, h3, h4.trans a6, fun h => by rw [t4] at h; exact absurd h (by decide)⟩)
          · exact absurd q.1 (by omega)
      · exact absurd q (e6 e s (by omega))
  · by_cases c : e = d
    · subst c; rw [e2 k] at q; exact absurd q (by simp)
    · rw [e1 e k c] at q
      by_cases c2 : e < d
      · exact (e5 _ _ c2).mpr (i5 _ _ _ q)
      · by_cases c3 : e = d + 1
        · subst c3; rw [hg0 _ k (by omega)] at q; exact absurd q (by simp)
        · rw [hg0 e k (by omega)] at q; exact absurd q (by simp)
  · by_cases c : e = d
    · subst c; rw [e2 k] at q; exact absurd q (by simp)
    · rw [e1 e k c] at q
      by_cases c2 : e < d
      · exact i6 _ _ _ q h9 s ((e5 _ _ c2).mp hs)
      · exact absurd hs (e6 e s (by omega))
  · by_cases c : e = d
    · subst c; rw [e2 k] at q; exact absurd q (by simp)
    · rw [e1 e _ c] at q q'
      exact i7 _ _ _ _ _ q q' hj h9
  · by_cases c : e < d
    · rw [e3 _ (by omega)] at q
      obtain ⟨a1, a2⟩ := i8 e q
      exact ⟨by rw [e3 _ (by omega)]; exact a1, fun s hs => a2 s ((e5 _ _ c).mp hs)⟩
    · by_cases c2 : e = d
      · subst c2; rw [e4] at q; exact absurd q (by simp)
      · refine ⟨?_, fun s hs => absurd hs (e6 e s (by omega))⟩
        rw [e3 _ (by omega)] at q
        have := (i8 e q).1
        by_cases c3 : e = d + 1
        · subst c3; rw [hr2] at q; exact absurd q (by simp)
        · rw [e3 _ c3]; exact this
end
