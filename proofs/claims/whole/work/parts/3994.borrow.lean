/-! BORROWING: what looking proves of references, over frames of calls -/
/-- a slot: node, sort (0 a value, 8 a reference, 9 one that writes), type, origins, inside -/
abbrev Sl : Type := Nat × Nat × Nat × Int64 × Bool
def ob (O : Int64) (b : Nat) : Bool := O.toBitVec.getLsbD b
def mt (O O' : Int64) : Prop := ∃ b, ob O b = true ∧ ob O' b = true
/-- where a reference of frame d may point: into a local of its own, below what a parameter points to, into a resource of its module -/
def RefOk (H : Hp) (Lv : Nat → Nat → Nat → Option Nat) (gh : Nat → Nat → Option Sl) (rs : Nat → Bool) (rb : Nat → Nat → Nat) (d : Nat) (s : Sl) : Prop := ∃ b, ob s.2.2.2.1 b = true ∧ ((b < 40 ∧ ∃ X, Lv 1 d b = some X ∧ Sub H X s.1 ∧ (s.2.2.2.2 = false → s.1 = X)) ∨ (40 ≤ b ∧ b < 48 ∧ 0 < d ∧ ∃ g, gh (d - 1) (b - 40) = some g ∧ (s.2.1 = 9 → g.2.1 = 9) ∧ Sub H g.1 s.1 ∧ (s.2.2.2.2 = false → s.1 = g.1)) ∨ (48 ≤ b ∧ rs d = true ∧ ∃ j X, Lv 2 0 j = some X ∧ rb d j = b ∧ Sub H X s.1 ∧ (s.2.2.2.2 = false → s.1 = X)))
def BInv (H : Hp) (Lv : Nat → Nat → Nat → Option Nat) (Rf : Nat → Sl → Prop) (gh : Nat → Nat → Option Sl) (rs : Nat → Bool) (rb : Nat → Nat → Nat) : Prop := Fo H ∧ (∀ a d k X, Lv a d k = some X → Rt H X) ∧ (∀ a d k a' d' k' X, Lv a d k = some X → Lv a' d' k' = some X → a = a' ∧ d = d' ∧ k = k') ∧ (∀ d s, Rf d s → RefOk H Lv gh rs rb d s) ∧ (∀ d k g, gh d k = some g → Rf d g) ∧ (∀ d k g, gh d k = some g → g.2.1 = 9 → ∀ s, Rf d s → s = g ∨ (mt s.2.2.2.1 g.2.2.2.1 → s.2.1 = 9 ∧ s.2.2.2.2 = false)) ∧ (∀ d k j g g', gh d k = some g → gh d j = some g' → j ≠ k → g.2.1 = 9 → ¬ mt g'.2.2.2.1 g.2.2.2.1) ∧ (∀ d, rs (d + 1) = true → rs d = true ∧ ∀ s, Rf d s → ∀ b, 48 ≤ b → ob s.2.2.2.1 b = false)
section
variable {H : Hp} {Lv : Nat → Nat → Nat → Option Nat} {Rf : Nat → Sl → Prop} {gh : Nat → Nat → Option Sl} {rs : Nat → Bool} {rb : Nat → Nat → Nat}
theorem BInv.lemA (I : BInv H Lv Rf gh rs rb) {d k X : Nat} (hX : Lv 1 d k = some X) : ∀ d' s, d' ≤ d → Rf d' s → Sub H X s.1 → d' = d ∧ ob s.2.2.2.1 k = true ∧ (s.2.2.2.2 = false → s.1 = X) := by
  obtain ⟨f, rt, inj, ro, gr, _, _, _⟩ := I
  intro d'
  induction d' with
  | zero =>
    intro s hd hs h
    obtain ⟨b, hb, q | q | q⟩ := ro 0 s hs
    · obtain ⟨_, Y, hY, h1, h2⟩ := q
      have e := Sub.roots f (rt _ _ _ _ hX) (rt _ _ _ _ hY) h h1
      subst e
      obtain ⟨_, e1, e2⟩ := inj _ _ _ _ _ _ _ hX hY
      exact ⟨e1.symm, by rw [e2]; exact hb, h2⟩
    · exact absurd q.2.2.1 (by omega)
    · obtain ⟨_, _, j, Y, hY, _, h1, _⟩ := q
      have e := Sub.roots f (rt _ _ _ _ hX) (rt _ _ _ _ hY) h h1
      subst e
      exact absurd (inj _ _ _ _ _ _ _ hX hY).1 (by decide)
  | succ n ih =>
    intro s hd hs h
    obtain ⟨b, hb, q | q | q⟩ := ro _ s hs
    · obtain ⟨_, Y, hY, h1, h2⟩ := q
      have e := Sub.roots f (rt _ _ _ _ hX) (rt _ _ _ _ hY) h h1
      subst e
      obtain ⟨_, e1, e2⟩ := inj _ _ _ _ _ _ _ hX hY
      exact ⟨e1.symm, by rw [e2]; exact hb, h2⟩
    · obtain ⟨_, _, _, g, hg, _, h1, _⟩ := q
      have e : n + 1 - 1 = n := by omega
      rw [e] at hg
      have := ih g (by omega) (gr _ _ _ hg) (h.up f (rt _ _ _ _ hX) h1)
      omega
    · obtain ⟨_, _, j, Y, hY, _, h1, _⟩ := q
      have e := Sub.roots f (rt _ _ _ _ hX) (rt _ _ _ _ hY) h h1
      subst e
      exact absurd (inj _ _ _ _ _ _ _ hX hY).1 (by decide)
theorem BInv.down (I : BInv H Lv Rf gh rs rb) : ∀ d, rs d = true → ∀ e, e ≤ d → rs e = true := by
  obtain ⟨_, _, _, _, _, _, _, dn⟩ := I
  intro d
  induction d with
  | zero => intro h e he; rw [show e = 0 by omega]; exact h
  | succ n ih =>
    intro h e he
    by_cases q : e = n + 1
    · rw [q]; exact h
    · exact ih (dn n h).1 e (by omega)
theorem BInv.lemB (I : BInv H Lv Rf gh rs rb) {d j X : Nat} (hr : rs d = true) (hX : Lv 2 0 j = some X) : ∀ d' s, d' ≤ d → Rf d' s → Sub H X s.1 → d' = d ∧ 48 ≤ rb d j ∧ ob s.2.2.2.1 (rb d j) = true ∧ (s.2.2.2.2 = false → s.1 = X) := by
  have dwn := I.down d hr
  obtain ⟨f, rt, inj, ro, gr, _, _, dn⟩ := I
  intro d'
  induction d' with
  | zero =>
    intro s hd hs h
    obtain ⟨b, hb, q | q | q⟩ := ro 0 s hs
    · obtain ⟨_, Y, hY, h1, h2⟩ := q
      have e := Sub.roots f (rt _ _ _ _ hX) (rt _ _ _ _ hY) h h1
      subst e
      exact absurd (inj _ _ _ _ _ _ _ hX hY).1 (by decide)
    · exact absurd q.2.2.1 (by omega)
    · obtain ⟨h48, _, j', Y, hY, e0, h1, h2⟩ := q
      have e := Sub.roots f (rt _ _ _ _ hX) (rt _ _ _ _ hY) h h1
      subst e
      obtain ⟨_, _, e2⟩ := inj _ _ _ _ _ _ _ hX hY
      subst e2
      by_cases q : d = 0
      · subst q; rw [e0]; exact ⟨rfl, h48, hb, h2⟩
      · have := (dn 0 (dwn 1 (by omega))).2 s hs b h48
        rw [hb] at this
        exact absurd this (by decide)
  | succ n ih =>
    intro s hd hs h
    obtain ⟨b, hb, q | q | q⟩ := ro _ s hs
    · obtain ⟨_, Y, hY, h1, h2⟩ := q
      have e := Sub.roots f (rt _ _ _ _ hX) (rt _ _ _ _ hY) h h1
      subst e
      exact absurd (inj _ _ _ _ _ _ _ hX hY).1 (by decide)
    · obtain ⟨_, _, _, g, hg, _, h1, _⟩ := q
      have e : n + 1 - 1 = n := by omega
      rw [e] at hg
      have := ih g (by omega) (gr _ _ _ hg) (h.up f (rt _ _ _ _ hX) h1)
      omega
    · obtain ⟨h48, _, j', Y, hY, e0, h1, h2⟩ := q
      have e := Sub.roots f (rt _ _ _ _ hX) (rt _ _ _ _ hY) h h1
      subst e
      obtain ⟨_, _, e2⟩ := inj _ _ _ _ _ _ _ hX hY
      subst e2
      by_cases q : d = n + 1
      · subst q; rw [e0]; exact ⟨rfl, h48, hb, h2⟩
      · have := (dn (n + 1) (dwn (n + 2) (by omega))).2 s hs b h48
        rw [hb] at this
        exact absurd this (by decide)
theorem BInv.rootOf (I : BInv H Lv Rf gh rs rb) : ∀ d s, Rf d s → ∃ a e k X, a ≠ 0 ∧ Lv a e k = some X ∧ Sub H X s.1 := by
  obtain ⟨f, rt, inj, ro, gr, _, _, dn⟩ := I
  intro d
  induction d with
  | zero =>
    intro s hs
    obtain ⟨b, hb, q | q | q⟩ := ro 0 s hs
    · obtain ⟨_, Y, hY, h1, h2⟩ := q
      exact ⟨1, _, _, Y, by decide, hY, h1⟩
    · exact absurd q.2.2.1 (by omega)
    · obtain ⟨_, _, j, Y, hY, _, h1, _⟩ := q
      exact ⟨2, _, _, Y, by decide, hY, h1⟩
  | succ n ih =>
    intro s hs
    obtain ⟨b, hb, q | q | q⟩ := ro _ s hs
    · obtain ⟨_, Y, hY, h1, h2⟩ := q
      exact ⟨1, _, _, Y, by decide, hY, h1⟩
    · obtain ⟨_, _, _, g, hg, _, h1, _⟩ := q
      have e : n + 1 - 1 = n := by omega
      rw [e] at hg
      obtain ⟨a, e, k, X, h2, h3, h4⟩ := ih g (gr _ _ _ hg)
      exact ⟨a, e, k, X, h2, h3, h4.trans h1⟩
    · obtain ⟨_, _, j, Y, hY, _, h1, _⟩ := q
      exact ⟨2, _, _, Y, by decide, hY, h1⟩
/-- origins that do not meet, one of them writing: two trees -/
theorem BInv.lemD (I : BInv H Lv Rf gh rs rb) {X : Nat} (hX : Rt H X) : ∀ d v s, Rf d v → v.2.1 = 9 → Rf d s → ¬ mt s.2.2.2.1 v.2.2.2.1 → Sub H X v.1 → Sub H X s.1 → False := by
  have lA := @BInv.lemA _ _ _ _ _ _ I
  have lB := @BInv.lemB _ _ _ _ _ _ I
  obtain ⟨f, rt, inj, ro, gr, _, g7, dn⟩ := I
  intro d
  induction d with
  | zero =>
    intro v s hv h9 hs hm h1 h2
    obtain ⟨b, hb, q | q | q⟩ := ro _ v hv
    · obtain ⟨_, Y, hY, h3, _⟩ := q
      have e := Sub.roots f hX (rt _ _ _ _ hY) h1 h3
      subst e
      exact hm ⟨b, (lA hY 0 s (by omega) hs h2).2.1, hb⟩
    · exact absurd q.2.2.1 (by omega)
    · obtain ⟨_, hr, j, Y, hY, e0, h3, _⟩ := q
      have e := Sub.roots f hX (rt _ _ _ _ hY) h1 h3
      subst e
      have := (lB hr hY 0 s (by omega) hs h2).2.2.1
      rw [e0] at this
      exact hm ⟨b, this, hb⟩
  | succ n ih =>
    intro v s hv h9 hs hm h1 h2
    obtain ⟨b, hb, q | q | q⟩ := ro _ v hv
    · obtain ⟨_, Y, hY, h3, _⟩ := q
      have e := Sub.roots f hX (rt _ _ _ _ hY) h1 h3
      subst e
      exact hm ⟨b, (lA hY _ s (by omega) hs h2).2.1, hb⟩
    · obtain ⟨b1, b2, _, g, hg, hg9, h3, _⟩ := q
      have e : n + 1 - 1 = n := by omega
      rw [e] at hg
      have hgX := h1.up f hX h3
      have hgr := gr _ _ _ hg
      obtain ⟨c, hc, q | q | q⟩ := ro _ s hs
      · obtain ⟨_, Y, hY, h4, _⟩ := q
        have e := Sub.roots f hX (rt _ _ _ _ hY) h2 h4
        subst e
        have := (lA hY n g (by omega) hgr hgX).1
        omega
      · obtain ⟨c1, c2, _, g', hg', _, h4, _⟩ := q
        rw [e] at hg'
        have hne : c - 40 ≠ b - 40 := fun q => hm ⟨b, by rw [show b = c by omega]; exact hc, hb⟩
        exact ih g g' hgr (hg9 h9) (gr _ _ _ hg') (g7 _ _ _ _ _ hg hg' hne (hg9 h9)) hgX (h2.up f hX h4)
      · obtain ⟨_, hr, j, Y, hY, e0, h4, _⟩ := q
        have e := Sub.roots f hX (rt _ _ _ _ hY) h2 h4
        subst e
        have := (lB hr hY n g (by omega) hgr hgX).1
        omega
    · obtain ⟨_, hr, j, Y, hY, e0, h3, _⟩ := q
      have e := Sub.roots f hX (rt _ _ _ _ hY) h1 h3
      subst e
      have := (lB hr hY _ s (by omega) hs h2).2.2.1
      rw [e0] at this
      exact hm ⟨b, this, hb⟩
/-- nothing live points below what a sole writing reference points to -/
theorem BInv.sole (I : BInv H Lv Rf gh rs rb) : ∀ d v, Rf d v → v.2.1 = 9 → (∀ s, Rf d s → s = v ∨ (mt s.2.2.2.1 v.2.2.2.1 → s.2.1 = 9 ∧ s.2.2.2.2 = false)) → ∀ d' s, d' ≤ d → Rf d' s → Sub H v.1 s.1 → s.1 = v.1 := by
  have lA := @BInv.lemA _ _ _ _ _ _ I
  have lB := @BInv.lemB _ _ _ _ _ _ I
  have lD := @BInv.lemD _ _ _ _ _ _ I
  have lR := @BInv.rootOf _ _ _ _ _ _ I
  obtain ⟨f, rt, inj, ro, gr, g6, g7, dn⟩ := I
  have c1 : ∀ {d b : Nat} {v s : Sl} {Y : Nat}, Lv 1 d b = some Y → ob v.2.2.2.1 b = true → Sub H Y v.1 → (∀ s, Rf d s → s = v ∨ (mt s.2.2.2.1 v.2.2.2.1 → s.2.1 = 9 ∧ s.2.2.2.2 = false)) → ∀ d', d' ≤ d → Rf d' s → Sub H v.1 s.1 → s.1 = v.1 := by
    intro d b v s Y hY hb h3 hsole d' hd hs h
    obtain ⟨e1, e2, e3⟩ := lA hY d' s hd hs (h3.trans h)
    subst e1
    rcases hsole s hs with e | e
    · rw [e]
    · have q := e3 (e ⟨b, e2, hb⟩).2
      rw [q] at h
      rw [q, h.root (rt _ _ _ _ hY)]
  have c3 : ∀ {d b j : Nat} {v s : Sl} {Y : Nat}, rs d = true → Lv 2 0 j = some Y → rb d j = b → ob v.2.2.2.1 b = true → Sub H Y v.1 → (∀ s, Rf d s → s = v ∨ (mt s.2.2.2.1 v.2.2.2.1 → s.2.1 = 9 ∧ s.2.2.2.2 = false)) → ∀ d', d' ≤ d → Rf d' s → Sub H v.1 s.1 → s.1 = v.1 := by
    intro d b j v s Y hr hY e0 hb h3 hsole d' hd hs h
    obtain ⟨e1, _, e2, e3⟩ := lB hr hY d' s hd hs (h3.trans h)
    subst e1
    rcases hsole s hs with e | e
    · rw [e]
    · have q := e3 (e ⟨b, by rw [← e0]; exact e2, hb⟩).2
      rw [q] at h
      rw [q, h.root (rt _ _ _ _ hY)]
  intro d
  induction d with
  | zero =>
    intro v hv h9 hsole d' s hd hs h
    obtain ⟨b, hb, q | q | q⟩ := ro _ v hv
    · obtain ⟨_, Y, hY, h3, _⟩ := q
      exact c1 hY hb h3 hsole d' hd hs h
    · exact absurd q.2.2.1 (by omega)
    · obtain ⟨_, hr, j, Y, hY, e0, h3, _⟩ := q
      exact c3 hr hY e0 hb h3 hsole d' hd hs h
  | succ n ih =>
    intro v hv h9 hsole d' s hd hs h
    obtain ⟨b, hb, q | q | q⟩ := ro _ v hv
    · obtain ⟨_, Y, hY, h3, _⟩ := q
      exact c1 hY hb h3 hsole d' hd hs h
    · obtain ⟨b1, b2, _, g, hg, hg9, h3, _⟩ := q
      have e : n + 1 - 1 = n := by omega
      rw [e] at hg
      have hgr := gr _ _ _ hg
      have same : s.1 = g.1 → s.1 = v.1 := fun q => by
        rw [q] at h
        rw [q]
        exact h3.anti f h
      by_cases dq : d' = n + 1
      · subst dq
        obtain ⟨a, e', k, X, _, hX, hgX⟩ := lR n g hgr
        have hXr := rt _ _ _ _ hX
        have hsX := hgX.trans (h3.trans h)
        obtain ⟨c, hc, q | q | q⟩ := ro _ s hs
        · obtain ⟨_, Y, hY, h4, _⟩ := q
          have e := Sub.roots f hXr (rt _ _ _ _ hY) hsX h4
          subst e
          have := (lA hY n g (by omega) hgr hgX).1
          omega
        · obtain ⟨c1, c2, _, g', hg', _, h4, h5⟩ := q
          rw [e] at hg'
          by_cases hne : c - 40 = b - 40
          · rw [hne, hg] at hg'
            cases hg'
            rcases hsole s hs with e | e
            · rw [e]
            · exact same (h5 (e ⟨b, by rw [show b = c by omega]; exact hc, hb⟩).2)
          · exact absurd (hsX.up f hXr h4) (fun q => lD hXr n g g' hgr (hg9 h9) (gr _ _ _ hg') (g7 _ _ _ _ _ hg hg' hne (hg9 h9)) hgX q)
        · obtain ⟨_, hr, j, Y, hY, e0, h4, _⟩ := q
          have e := Sub.roots f hXr (rt _ _ _ _ hY) hsX h4
          subst e
          have := (lB hr hY n g (by omega) hgr hgX).1
          omega
      · exact same (ih g hgr (hg9 h9) (g6 _ _ _ hg (hg9 h9)) d' s (by omega) hs (h3.trans h))
    · obtain ⟨_, hr, j, Y, hY, e0, h3, _⟩ := q
      exact c3 hr hY e0 hb h3 hsole d' hd hs h
end
