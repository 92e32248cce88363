/-! THE MACHINE'S STATE: moves of values and references -/
section
variable {E : Ev} {H : Hp} {m : Nat} {ty : Nat → Nat} {fr : Nat → Fm} {nf na : Nat} {ak : Nat → Ask} {hd : Nat → Option Nat}
theorem MJ0.nf0 (I : MJ0 E H m ty fr nf na ak hd) : 0 < nf := I.2.2.2.2.2.2
theorem MJ0.g0 (I : MJ0 E H m ty fr nf na ak hd) (k : Nat) : (fr (nf - 1)).2.2.2 k = none := I.2.2.2.2.2.1 k I.nf0
theorem MJ0.sl (I : MJ0 E H m ty fr nf na ak hd) : (∀ k, k < (fr (nf - 1)).2.2.1.1 → SlT H ty ((fr (nf - 1)).2.2.1.2 k)) ∧ (∀ k s, (fr (nf - 1)).2.1 k = some s → k < 40 ∧ SlT H ty s) := ⟨(I.2.2.1 _ (by have := I.nf0; omega)).1, (I.2.2.1 _ (by have := I.nf0; omega)).2.1⟩
theorem MJ0.at0 (I : MJ0 E H m ty fr nf na ak hd) {k : Nat} (hk : k < (fr (nf - 1)).2.2.1.1) : LvA fr nf na ak hd 0 (nf - 1) k = pln ((fr (nf - 1)).2.2.1.2 k) := by rw [lv0, if_pos ⟨by have := I.nf0; omega, hk⟩]
theorem MJ0.at1 (I : MJ0 E H m ty fr nf na ak hd) (k : Nat) : LvA fr nf na ak hd 1 (nf - 1) k = ((fr (nf - 1)).2.1 k).bind pln := by rw [lv1, if_pos (by have := I.nf0; omega)]
theorem MJ0.at3 (k : Nat) : LvA fr nf na ak hd 3 0 k = hd k := by rw [lv3, if_pos rfl]
/-- n slots go, and hands perhaps -/
theorem MJ0.dropN (I : MJ0 E H m ty fr nf na ak hd) (n : Nat) {hd' : Nat → Option Nat} (hh : ∀ k X, hd' k = some X → hd k = some X) : MJ0 E H m ty (setF fr (nf - 1) (setH (fr (nf - 1)) ((fr (nf - 1)).2.2.1.1 - n))) nf na ak hd' := by
  refine I.top (setH (fr (nf - 1)) ((fr (nf - 1)).2.2.1.1 - n)) rfl rfl I.g0 _ (fun a d k => (a, d, k)) (fun _ _ _ _ _ => rfl) ?_ ?_ ?_ (fun k X q => .inl q) ?_ ?_ I.sl.2
  · intro k hk X q
    simp only [setH] at hk q
    exact ⟨0, nf - 1, k, by rw [I.at0 (by omega)]; exact q, rfl⟩
  · intro k X q
    exact ⟨1, nf - 1, k, by rw [I.at1]; exact q, rfl⟩
  · intro k X q
    exact ⟨3, 0, k, by rw [MJ0.at3]; exact hh k X q, rfl⟩
  · intro s h0 h
    refine .inl ⟨by have := I.nf0; omega, h0, ?_⟩
    rcases h with ⟨k, k1, k2⟩ | h
    · simp only [setH] at k1 k2
      exact .inl ⟨k, by omega, k2⟩
    · exact .inr (.inl h)
  · intro k h
    simp only [setH] at h ⊢
    exact I.sl.1 k (by omega)
def setN (x : Fm) (n : Nat) (sl : Nat → Sl) : Fm := (x.1, x.2.1, (x.2.2.1.1 + n, fun k => if k < x.2.2.1.1 then x.2.2.1.2 k else sl (k - x.2.2.1.1)), x.2.2.2)
/-- n values come out of hands onto the stack -/
theorem MJ0.pushN (I : MJ0 E H m ty fr nf na ak hd) (n : Nat) (sl : Nat → Sl) (hs : ∀ i, i < n → hd i = some (sl i).1 ∧ (sl i).2.1 = 0 ∧ ty (sl i).1 = (sl i).2.2.1) : MJ0 E H m ty (setF fr (nf - 1) (setN (fr (nf - 1)) n sl)) nf na ak (fun i => if i < n then none else hd i) := by
  refine I.top (setN (fr (nf - 1)) n sl) rfl rfl I.g0 _ (fun a d k => if a = 3 ∧ k < n then (0, nf - 1, (fr (nf - 1)).2.2.1.1 + k) else (a, d, k)) (fun a d k h _ => if_neg (fun q => h q.1)) ?_ ?_ ?_ (fun k X q => .inl q) ?_ ?_ I.sl.2
  · intro k hk X q
    simp only [setN] at hk q
    by_cases c : k < (fr (nf - 1)).2.2.1.1
    · rw [if_pos c] at q
      exact ⟨0, nf - 1, k, by rw [I.at0 c]; exact q, if_neg (by omega)⟩
    · rw [if_neg c] at q
      obtain ⟨h1, h2, _⟩ := hs (k - (fr (nf - 1)).2.2.1.1) (by omega)
      refine ⟨3, 0, k - (fr (nf - 1)).2.2.1.1, ?_, ?_⟩
      · rw [MJ0.at3, h1, (pln_e q).2]
      · rw [if_pos ⟨rfl, by omega⟩, show (fr (nf - 1)).2.2.1.1 + (k - (fr (nf - 1)).2.2.1.1) = k by omega]
  · intro k X q
    exact ⟨1, nf - 1, k, by rw [I.at1]; exact q, if_neg (by omega)⟩
  · intro k X q
    by_cases c : k < n
    · simp only [if_pos c] at q; exact absurd q (by simp)
    · simp only [if_neg c] at q
      exact ⟨3, 0, k, by rw [MJ0.at3]; exact q, if_neg (by omega)⟩
  · intro s h0 h
    refine .inl ⟨by have := I.nf0; omega, h0, ?_⟩
    rcases h with ⟨k, k1, k2⟩ | h
    · simp only [setN] at k1 k2
      by_cases c : k < (fr (nf - 1)).2.2.1.1
      · rw [if_pos c] at k2
        exact .inl ⟨k, c, k2⟩
      · rw [if_neg c] at k2
        rw [← k2, (hs _ (by omega)).2.1] at h0
        exact absurd rfl h0
    · exact .inr (.inl h)
  · intro k h
    simp only [setN] at h ⊢
    by_cases c : k < (fr (nf - 1)).2.2.1.1
    · rw [if_pos c]; exact I.sl.1 k c
    · rw [if_neg c]
      obtain ⟨h1, h2, h3⟩ := hs (k - (fr (nf - 1)).2.2.1.1) (by omega)
      exact ⟨I.2.2.2.1 _ _ h1, h3, .inl h2⟩
abbrev rOk (E : Ev) (H : Hp) (fr : Nat → Fm) (nf na : Nat) (ak : Nat → Ask) (hd : Nat → Option Nat) (s : Sl) : Prop := RefOk H (LvA fr nf na ak hd) (ghA fr nf) (rsA E fr nf) (rbA E fr ak) (nf - 1) s
/-- a reference comes onto the stack -/
theorem MJ0.pushR (I : MJ0 E H m ty fr nf na ak hd) {s : Sl} (h : rOk E H fr nf na ak hd s) (ht : SlT H ty s) (h9 : s.2.1 ≠ 0) : MJ0 E H m ty (setF fr (nf - 1) (setS (fr (nf - 1)) (fr (nf - 1)).2.2.1.1 s)) nf na ak hd := by
  refine I.top (setS (fr (nf - 1)) (fr (nf - 1)).2.2.1.1 s) rfl rfl I.g0 _ (fun a d k => (a, d, k)) (fun _ _ _ _ _ => rfl) ?_ ?_ ?_ (fun k X q => .inl q) ?_ ?_ I.sl.2
  · intro k hk X q
    simp only [setS] at hk q
    by_cases c : k = (fr (nf - 1)).2.2.1.1
    · rw [if_pos c] at q
      exact absurd (pln_e q).1 h9
    · rw [if_neg c] at q
      exact ⟨0, nf - 1, k, by rw [I.at0 (by omega)]; exact q, rfl⟩
  · intro k X q
    exact ⟨1, nf - 1, k, by rw [I.at1]; exact q, rfl⟩
  · intro k X q
    exact ⟨3, 0, k, by rw [MJ0.at3]; exact q, rfl⟩
  · intro s' h0 q
    rcases q with ⟨k, k1, k2⟩ | q
    · simp only [setS] at k1 k2
      by_cases c : k = (fr (nf - 1)).2.2.1.1
      · rw [if_pos c] at k2; rw [← k2]; exact .inr h
      · rw [if_neg c] at k2
        exact .inl ⟨by have := I.nf0; omega, h0, .inl ⟨k, by omega, k2⟩⟩
    · exact .inl ⟨by have := I.nf0; omega, h0, .inr (.inl q)⟩
  · intro k hk
    simp only [setS] at hk ⊢
    by_cases c : k = (fr (nf - 1)).2.2.1.1
    · rw [if_pos c]; exact ht
    · rw [if_neg c]; exact I.sl.1 k (by omega)
/-- a local's value is taken into hand 0 -/
theorem MJ0.locOut (I : MJ0 E H m ty fr nf na ak (fun _ => none)) {k : Nat} {s : Sl} (hk : (fr (nf - 1)).2.1 k = some s) (h0 : s.2.1 = 0) (hf : ∀ q, RfA fr nf (nf - 1) q → ob q.2.2.2.1 k = false) : MJ0 E H m ty (setF fr (nf - 1) (setLo (fr (nf - 1)) k none)) nf na ak (fun i => if i = 0 then some s.1 else none) := by
  have hl : LvA fr nf na ak (fun _ => none) 1 (nf - 1) k = some s.1 := by rw [I.at1, hk, Option.bind_some, pln0 h0]
  refine I.top (setLo (fr (nf - 1)) k none) rfl rfl I.g0 _ (fun a d j => if a = 1 ∧ d = nf - 1 ∧ j = k then (3, 0, 0) else (a, d, j)) (fun a d j h1 h2 => if_neg (fun q => h2 ⟨by omega, q.2.1⟩)) ?_ ?_ ?_ ?_ ?_ I.sl.1 ?_
  · intro j hj X q
    exact ⟨0, nf - 1, j, by rw [I.at0 hj]; exact q, if_neg (by omega)⟩
  · intro j X q
    simp only [setLo] at q
    by_cases c : j = k
    · rw [if_pos c] at q; exact absurd q (by simp)
    · rw [if_neg c] at q
      exact ⟨1, nf - 1, j, by rw [I.at1]; exact q, if_neg (fun q => c q.2.2)⟩
  · intro j X q
    by_cases c : j = 0
    · simp only [if_pos c, Option.some.injEq] at q
      exact ⟨1, nf - 1, k, by rw [hl, q], by rw [if_pos ⟨rfl, rfl, rfl⟩, c]⟩
    · simp only [if_neg c] at q; exact absurd q (by simp)
  · intro j X q
    simp only [setLo]
    by_cases c : j = k
    · right
      subst c
      intro e t ht hs
      have hX : LvA fr nf na ak (fun _ => none) 1 (nf - 1) j = some X := by rw [I.at1]; exact q
      have ht' : RfA fr nf e t := by
        obtain ⟨t1, t2, t3⟩ := ht
        refine ⟨t1, t2, ?_⟩
        by_cases c : e = nf - 1
        · subst c
          rw [setF_s] at t3
          rcases t3 with t3 | ⟨i, t3⟩ | t3
          · exact .inl t3
          · simp only [setLo] at t3
            by_cases c : i = j
            · rw [if_pos c] at t3; exact absurd t3 (by simp)
            · rw [if_neg c] at t3; exact .inr (.inl ⟨i, t3⟩)
          · exact .inr (.inr t3)
        · rw [setF_n c] at t3; exact t3
      obtain ⟨e1, e2, _⟩ := I.1.lemA hX e t (by have := ht'.1; omega) ht' hs
      subst e1
      rw [hf t ht'] at e2
      exact absurd e2 (by decide)
    · rw [if_neg c]; exact .inl q
  · intro s' g0 q
    refine .inl ⟨by have := I.nf0; omega, g0, ?_⟩
    rcases q with q | ⟨i, q⟩
    · exact .inl q
    · simp only [setLo] at q
      by_cases c : i = k
      · rw [if_pos c] at q; exact absurd q (by simp)
      · rw [if_neg c] at q; exact .inr (.inl ⟨i, q⟩)
  · intro i s' q
    simp only [setLo] at q
    by_cases c : i = k
    · rw [if_pos c] at q; exact absurd q (by simp)
    · rw [if_neg c] at q; exact I.sl.2 i s' q
/-- a local that holds a reference, or nothing, is set to nothing, or to a reference -/
theorem MJ0.locR (I : MJ0 E H m ty fr nf na ak hd) {k : Nat} {s : Option Sl} (hk : ∀ q, (fr (nf - 1)).2.1 k = some q → q.2.1 ≠ 0) (h : ∀ q, s = some q → k < 40 ∧ q.2.1 ≠ 0 ∧ SlT H ty q ∧ rOk E H fr nf na ak hd q) : MJ0 E H m ty (setF fr (nf - 1) (setLo (fr (nf - 1)) k s)) nf na ak hd := by
  have nb : ∀ q : Sl, q.2.1 ≠ 0 → pln q = none := fun q h => by rw [pln, if_neg h]
  refine I.top (setLo (fr (nf - 1)) k s) rfl rfl I.g0 _ (fun a d j => (a, d, j)) (fun _ _ _ _ _ => rfl) ?_ ?_ ?_ ?_ ?_ I.sl.1 ?_
  · intro j hj X q
    exact ⟨0, nf - 1, j, by rw [I.at0 hj]; exact q, rfl⟩
  · intro j X q
    simp only [setLo] at q
    by_cases c : j = k
    · rw [if_pos c] at q
      cases hs : s with
      | none => rw [hs] at q; exact absurd q (by simp)
      | some t => rw [hs, Option.bind_some, nb t (h t hs).2.1] at q; exact absurd q (by simp)
    · rw [if_neg c] at q
      exact ⟨1, nf - 1, j, by rw [I.at1]; exact q, rfl⟩
  · intro j X q
    exact ⟨3, 0, j, by rw [MJ0.at3]; exact q, rfl⟩
  · intro j X q
    simp only [setLo]
    by_cases c : j = k
    · subst c
      cases hs : (fr (nf - 1)).2.1 j with
      | none => rw [hs] at q; exact absurd q (by simp)
      | some t => rw [hs, Option.bind_some, nb t (hk t hs)] at q; exact absurd q (by simp)
    · rw [if_neg c]; exact .inl q
  · intro s' g0 q
    rcases q with q | ⟨i, q⟩
    · exact .inl ⟨by have := I.nf0; omega, g0, .inl q⟩
    · simp only [setLo] at q
      by_cases c : i = k
      · rw [if_pos c] at q; exact .inr (h s' q).2.2.2
      · rw [if_neg c] at q; exact .inl ⟨by have := I.nf0; omega, g0, .inr (.inl ⟨i, q⟩)⟩
  · intro i s' q
    simp only [setLo] at q
    by_cases c : i = k
    · rw [if_pos c] at q; rw [c]; exact ⟨(h s' q).1, (h s' q).2.2.1⟩
    · rw [if_neg c] at q; exact I.sl.2 i s' q
/-- a value comes out of hand 0 into a local -/
theorem MJ0.locIn {X : Nat} (I : MJ0 E H m ty fr nf na ak (fun i => if i = 0 then some X else none)) {k : Nat} {s : Sl} (hs : s.1 = X) (h0 : s.2.1 = 0) (ht : ty s.1 = s.2.2.1) (h40 : k < 40) (hf : ∀ q, RfA fr nf (nf - 1) q → ob q.2.2.2.1 k = false) (hp : ∀ q, (fr (nf - 1)).2.1 k = some q → q.2.1 = 0) : MJ0 E H m ty (setF fr (nf - 1) (setLo (fr (nf - 1)) k (some s))) nf na ak (fun _ => none) := by
  have esub : ∀ e t, RfA (setF fr (nf - 1) (setLo (fr (nf - 1)) k (some s))) nf e t → RfA fr nf e t := by
    intro e t ⟨t1, t2, t3⟩
    refine ⟨t1, t2, ?_⟩
    by_cases c : e = nf - 1
    · subst c
      rw [setF_s] at t3
      rcases t3 with t3 | ⟨i, t3⟩ | t3
      · exact .inl t3
      · simp only [setLo] at t3
        by_cases c : i = k
        · rw [if_pos c] at t3; cases t3; exact absurd h0 t2
        · rw [if_neg c] at t3; exact .inr (.inl ⟨i, t3⟩)
      · exact .inr (.inr t3)
    · rw [setF_n c] at t3; exact t3
  refine I.top (setLo (fr (nf - 1)) k (some s)) rfl rfl I.g0 _ (fun a d j => if a = 3 then (1, nf - 1, k) else (a, d, j)) (fun a d j h1 h2 => if_neg h1) ?_ ?_ ?_ ?_ ?_ I.sl.1 ?_
  · intro j hj X q
    exact ⟨0, nf - 1, j, by rw [I.at0 hj]; exact q, if_neg (by omega)⟩
  · intro j Y q
    simp only [setLo] at q
    by_cases c : j = k
    · rw [if_pos c, Option.bind_some] at q
      have := (pln_e q).2
      exact ⟨3, 0, 0, by rw [MJ0.at3, if_pos rfl, ← hs, this], by rw [if_pos rfl, c]⟩
    · rw [if_neg c] at q
      exact ⟨1, nf - 1, j, by rw [I.at1]; exact q, if_neg (by omega)⟩
  · intro j Y q; exact absurd q (by simp)
  · intro j Y q
    simp only [setLo]
    by_cases c : j = k
    · right
      subst c
      intro e t ht' hs'
      have hY : LvA fr nf na ak (fun i => if i = 0 then some X else none) 1 (nf - 1) j = some Y := by rw [I.at1]; exact q
      have ht2 := esub e t ht'
      obtain ⟨e1, e2, _⟩ := I.1.lemA hY e t (by have := ht2.1; omega) ht2 hs'
      subst e1
      rw [hf t ht2] at e2
      exact absurd e2 (by decide)
    · rw [if_neg c]; exact .inl q
  · intro s' g0 q
    exact .inl (esub (nf - 1) s' ⟨by have := I.nf0; omega, g0, by rw [setF_s]; exact q.elim (fun q => .inl q) (fun q => .inr (.inl q))⟩)
  · intro i s' q
    simp only [setLo] at q
    by_cases c : i = k
    · rw [if_pos c] at q; cases q
      exact ⟨by omega, I.2.2.2.1 0 s.1 (by simp [hs]), ht, .inl h0⟩
    · rw [if_neg c] at q; exact I.sl.2 i s' q
theorem RefOk.mono {Lv : Nat → Nat → Nat → Option Nat} {gh : Nat → Nat → Option Sl} {rs : Nat → Bool} {rb : Nat → Nat → Nat} {d : Nat} {s s' : Sl} (h : RefOk H Lv gh rs rb d s) (h1 : Sub H s.1 s'.1) (h2 : s'.2.1 = 9 → s.2.1 = 9) (h3 : ∀ b, ob s.2.2.2.1 b = true → ob s'.2.2.2.1 b = true) (h4 : s'.2.2.2.2 = false → s.2.2.2.2 = false ∧ s'.1 = s.1) : RefOk H Lv gh rs rb d s' := by
  obtain ⟨b, hb, q | q | q⟩ := h
  · obtain ⟨a0, X, a1, a2, a3⟩ := q
    exact ⟨b, h3 b hb, .inl ⟨a0, X, a1, a2.trans h1, fun h => by rw [(h4 h).2]; exact a3 (h4 h).1⟩⟩
  · obtain ⟨a0, a1, a2, g, a3, a4, a5, a6⟩ := q
    exact ⟨b, h3 b hb, .inr (.inl ⟨a0, a1, a2, g, a3, fun h => a4 (h2 h), a5.trans h1, fun h => by rw [(h4 h).2]; exact a6 (h4 h).1⟩)⟩
  · obtain ⟨a0, a1, j, X, a2, a3, a4, a5⟩ := q
    exact ⟨b, h3 b hb, .inr (.inr ⟨a0, a1, j, X, a2, a3, a4.trans h1, fun h => by rw [(h4 h).2]; exact a5 (h4 h).1⟩)⟩
def wk (s s' : Sl) : Prop := s'.1 = s.1 ∧ s'.2.1 = s.2.1 ∧ s'.2.2.1 = s.2.2.1 ∧ (∀ b, ob s.2.2.2.1 b = true → ob s'.2.2.2.1 b = true) ∧ (s'.2.2.2.2 = false → s.2.2.2.2 = false)
theorem wk.pe {s s' : Sl} (h : wk s s') : pln s' = pln s := by unfold pln; rw [h.1, h.2.1]
/-- less is known, another instruction is next -/
theorem MJ0.weak (I : MJ0 E H m ty fr nf na ak hd) (x : Fm) (hx1 : x.1.1 = (fr (nf - 1)).1.1) (hx2 : x.1.2.1 = (fr (nf - 1)).1.2.1) (hx3 : ∀ k, x.2.2.2 k = none) (hh : x.2.2.1.1 = (fr (nf - 1)).2.2.1.1) (hs : ∀ k, k < x.2.2.1.1 → wk ((fr (nf - 1)).2.2.1.2 k) (x.2.2.1.2 k)) (hl : ∀ k, (x.2.1 k = none ∧ ∀ q, (fr (nf - 1)).2.1 k = some q → q.2.1 ≠ 0) ∨ ∃ q q', (fr (nf - 1)).2.1 k = some q ∧ x.2.1 k = some q' ∧ wk q q') : MJ0 E H m ty (setF fr (nf - 1) x) nf na ak hd := by
  have nb : ∀ q : Sl, q.2.1 ≠ 0 → pln q = none := fun q h => by rw [pln, if_neg h]
  have lp : ∀ k, (x.2.1 k).bind pln = ((fr (nf - 1)).2.1 k).bind pln := by
    intro k
    rcases hl k with ⟨h1, h2⟩ | ⟨q, q', h1, h2, h3⟩
    · rw [h1]
      cases hs : (fr (nf - 1)).2.1 k with
      | none => rfl
      | some t => rw [Option.bind_some, nb t (h2 t hs)]; rfl
    · rw [h1, h2, Option.bind_some, Option.bind_some, h3.pe]
  have rk : ∀ q q', RfA fr nf (nf - 1) q → wk q q' → rOk E H fr nf na ak hd q' := by
    intro q q' hq w
    exact (I.1.2.2.2.1 _ q hq).mono (by rw [w.1]; exact Sub.refl H q.1) (fun h => by rw [← w.2.1]; exact h) w.2.2.2.1 (fun h => ⟨w.2.2.2.2 h, w.1⟩)
  refine I.top x hx1 hx2 hx3 _ (fun a d j => (a, d, j)) (fun _ _ _ _ _ => rfl) ?_ ?_ ?_ ?_ ?_ ?_ ?_
  · intro j hj X q
    rw [(hs j hj).pe] at q
    exact ⟨0, nf - 1, j, by rw [I.at0 (by omega)]; exact q, rfl⟩
  · intro j X q
    rw [lp] at q
    exact ⟨1, nf - 1, j, by rw [I.at1]; exact q, rfl⟩
  · intro j X q
    exact ⟨3, 0, j, by rw [MJ0.at3]; exact q, rfl⟩
  · intro j X q
    rw [lp]; exact .inl q
  · intro s' g0 q
    right
    rcases q with ⟨k, k1, k2⟩ | ⟨k, q⟩
    · have w := hs k k1
      rw [k2] at w
      exact rk _ _ ⟨by have := I.nf0; omega, by rw [← w.2.1]; exact g0, .inl ⟨k, by omega, rfl⟩⟩ w
    · rcases hl k with ⟨h1, h2⟩ | ⟨t, t', h1, h2, h3⟩
      · rw [h1] at q; exact absurd q (by simp)
      · rw [h2] at q; cases q
        exact rk _ _ ⟨by have := I.nf0; omega, by rw [← h3.2.1]; exact g0, .inr (.inl ⟨k, h1⟩)⟩ h3
  · intro k hk
    obtain ⟨w1, w2, w3, _⟩ := hs k hk
    obtain ⟨a1, a2, a3⟩ := I.sl.1 k (by omega)
    exact ⟨by rw [w1]; exact a1, by rw [w1, w3]; exact a2, by rw [w2]; exact a3⟩
  · intro k s' q
    rcases hl k with ⟨h1, h2⟩ | ⟨t, t', h1, h2, h3⟩
    · rw [h1] at q; exact absurd q (by simp)
    · rw [h2] at q; cases q
      obtain ⟨b, a1, a2, a3⟩ := I.sl.2 k t h1
      obtain ⟨w1, w2, w3, _⟩ := h3
      exact ⟨b, by rw [w1]; exact a1, by rw [w1, w3]; exact a2, by rw [w2]; exact a3⟩
end
