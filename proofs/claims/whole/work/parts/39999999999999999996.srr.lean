/-! THE CLASS'S READER: functions -/
def HG (z : St) (kp : Nat) (Jo : Option JI) : Prop := (∃ a, a ≤ 64 ∧ z.1 kp 9 = nI a) ∧ ∀ j, Jo = some j → z.1 kp 8 = nI j.1 ∧ z.1 kp 9 = nI j.2.1 ∧ j.1 ≤ 32 ∧ j.1 ≤ j.2.1 ∧ j.2.1 ≤ 64 ∧ (∀ s, s < j.1 → z.1 (kp + 3) (7 * s + 3) = nI (j.2.2.1 s) ∧ j.2.2.1 s < 256) ∧ z.1 kp 11 + z.1 kp 12 = nI j.2.2.2.1 ∧ j.2.2.2.1 < 256 ∧ z.1 kp 14 = nI j.2.2.2.2 ∧ j.2.2.2.2 < 256
def flG (gs : List GP) : List Ty := (gs.map (fun g => g.2.2.1 ++ (g.2.2.2.1 ++ g.2.2.2.2.1))).flatten
theorem flG_a (gs : List GP) (g : GP) : flG (gs ++ [g]) = flG gs ++ (g.2.2.1 ++ (g.2.2.2.1 ++ g.2.2.2.2.1)) := by unfold flG; rw [List.map_append, List.flatten_append]; simp
def GRo (z : St) (kp nm i off cof : Nat) (g : GP) : Prop := z.1 (kp + 4) (9 * i + 0) = nI g.2.1 ∧ z.1 (kp + 4) (9 * i + 1) = nI off ∧ z.1 (kp + 4) (9 * i + 2) = nI g.2.2.1.length ∧ z.1 (kp + 4) (9 * i + 3) = nI g.2.2.2.1.length ∧ z.1 (kp + 4) (9 * i + 4) = nI g.2.2.2.2.1.length ∧ z.1 (kp + 4) (9 * i + 5) = nI cof ∧ z.1 (kp + 4) (9 * i + 6) = nI g.2.2.2.2.2.length ∧ z.1 (kp + 4) (9 * i + 7) = nI nm ∧ z.1 (kp + 4) (9 * i + 8) = nI i
def RoG (z : St) (kp nm off : Nat) (gs : List GP) : Prop := ∀ f, f < gs.length → GRo z kp nm f (off + (flG (gs.take f)).length) (offC gs f) (gs.getD f dGP)
section
variable {F n : Nat} {sh : Nat → Nat × Nat} {z z' : St} {kp kb len : Nat} {b : Nat → Nat} {J : Bool} {r : Ex Nat} {ks js hs : List Nat} {Jo : Option JI}
theorem HG.fr (h : HG z kp Jo) (hk : 15 ≤ kp ∧ kp + 4 < 60) (f : FrKd kp ks js hs z z') (h1 : kp + 3 ∉ ks) (h2 : 8 ∉ js ∧ 9 ∉ js ∧ 11 ∉ js ∧ 12 ∉ js ∧ 14 ∉ js) : HG z' kp Jo := by
  unfold HG
  rw [f.2.2.2.1 9 h2.2.1, f.2.2.2.1 8 h2.1, f.2.2.2.1 11 h2.2.2.1, f.2.2.2.1 12 h2.2.2.2.1, f.2.2.2.1 14 h2.2.2.2.2, f.2.1 (kp + 3) (by omega) (by omega) h1]
  exact h
theorem HG.all (h : HG z kp Jo) : ∀ m, jAll Jo = some m → z.1 kp 9 = nI m ∧ m < 256 := fun m e => by
  cases Jo with
  | none => cases e
  | some j =>
    cases e
    have := h.2 j rfl
    exact ⟨this.2.1, by omega⟩
theorem GRo.fr {nm i off cof : Nat} {s : GP} (h : GRo z kp nm i off cof s) (f : ∀ x, x < 9 * i + 9 → z'.1 (kp + 4) x = z.1 (kp + 4) x) : GRo z' kp nm i off cof s := by
  unfold GRo
  rw [f _ (by omega), f _ (by omega), f _ (by omega), f _ (by omega), f _ (by omega), f _ (by omega), f _ (by omega), f _ (by omega), f _ (by omega)]
  exact h
theorem RoG.fr {nm off : Nat} {gs : List GP} (h : RoG z kp nm off gs) (f : ∀ x, x < 9 * gs.length → z'.1 (kp + 4) x = z.1 (kp + 4) x) : RoG z' kp nm off gs := fun k hk => (h k hk).fr (fun x hx => f x (by omega))
theorem RoG.snoc {nm off : Nat} {gs : List GP} {g : GP} (h : RoG z kp nm off gs) (h1 : GRo z kp nm gs.length (off + (flG gs).length) (allC gs).length g) : RoG z kp nm off (gs ++ [g]) := by
  intro k hk
  rw [List.length_append] at hk
  have hk' : k < gs.length + 1 := hk
  by_cases c : k = gs.length
  · subst c
    rw [getD_e, offC_l gs g (Nat.le_refl _), offC_e, List.take_append_of_le_length (Nat.le_refl _), List.take_length]
    exact h1
  · rw [getD_l (by omega), offC_l gs g (by omega), List.take_append_of_le_length (by omega)]
    exact h k (by omega)
theorem jd_ok {α : Type} {e : JI → Flt} {a q : α} (h : jd Jo e (.ok a : Ex α) = .ok q) : q = a := by
  cases Jo with
  | none => cases h; rfl
  | some j =>
    rw [jd_s] at h
    cases ee : e j with
    | none => rw [ee] at h; cases h; rfl
    | some w => rw [ee] at h; cases h
theorem gOwn_ok {p : Nat} {q : Nat × Nat} (h : gOwn b len Jo p = .ok q) : q.2 = p + 1 := by
  unfold gOwn at h
  obtain ⟨a, y1, y2⟩ := bq_ok h
  obtain ⟨_, ea⟩ := rBy_ok y1
  subst ea
  rw [jd_ok y2]
theorem gI1_lt {loc many p : Nat} {q : Unit × Nat} (h : gI1 b len Jo loc many p = .ok q) : p < q.2 := by
  unfold gI1 at h
  obtain ⟨o, y1, y2⟩ := bq_ok h
  obtain ⟨_, ea⟩ := rBy_ok y1
  subst ea
  split at y2
  · cases y2
  split at y2
  · obtain ⟨s, x1, x2⟩ := bq_ok y2
    have := sk_i x1
    subst this
    rw [jd_ok x2]
    show p < p + 1 + 2
    omega
  split at y2
  · have := sk_i y2
    subst this
    show p < p + 1 + _
    omega
  split at y2
  · obtain ⟨s, x1, x2⟩ := bq_ok y2
    obtain ⟨_, ea⟩ := rBy_ok x1
    subst ea
    rw [jd_ok x2]
    show p < p + 1 + 1
    omega
  split at y2
  · obtain ⟨a, x1, x2⟩ := bq_ok y2
    have g := gOwn_ok x1
    obtain ⟨c, x3, x4⟩ := bq_ok x2
    obtain ⟨_, ea⟩ := rBy_ok x3
    subst ea
    rw [jd_ok x4]
    show p < a.2 + 1
    have g' : a.2 = p + 1 + 1 := g
    omega
  split at y2
  · obtain ⟨a, x1, x2⟩ := bq_ok y2
    have g := gOwn_ok x1
    cases x2
    show p < a.2
    have g' : a.2 = p + 1 + 1 := g
    omega
  split at y2
  · obtain ⟨s, x1, x2⟩ := bq_ok y2
    obtain ⟨_, ea⟩ := rBy_ok x1
    subst ea
    rw [jd_ok x2]
    show p < p + 1 + 1
    omega
  split at y2
  · obtain ⟨s, x1, x2⟩ := bq_ok y2
    obtain ⟨_, ea⟩ := rBy_ok x1
    subst ea
    obtain ⟨c, x3, x4⟩ := bq_ok x2
    have := jd_ok x3
    subst this
    split at x4
    · obtain ⟨d, x5, x6⟩ := bq_ok x4
      obtain ⟨_, ed, _⟩ := rN_ok x5
      subst ed
      cases x6
      show p < p + 1 + 1 + 1
      omega
    · cases x4
      show p < p + 1 + 1
      omega
  · cases y2
    show p < p + 1
    omega
theorem KX.l244_e {e : Nat × Nat} (h : KX sh n z kp kb b len J (.error e)) {x : Int32} {ko : St → Int32 → Option (St × Unit)} {g : Nat} (hg : 0 < g) (y : Int32) : fn_X6_readFunctions_L244 F sh n 60 x ko g z y = ko z (x + 1) := by
  obtain ⟨g, rfl⟩ : ∃ q, g = q + 1 := ⟨g - 1, by omega⟩
  unfold fn_X6_readFunctions_L244 fn_X6_readFunctions_B270
  rw [if_neg h.ne0, ite_self]
theorem KX.instrs (hF : 300 ≤ F) (ej : Jo.isSome = J) {loc many : Nat} {x : Int32} {ko : St → Int32 → Option (St × Unit)} : ∀ m i g z p S, i + m = many → m < g → KX sh n z kp kb b len J (.ok p) → HJ z kp Jo loc many → SrT z kp S → S.length < p → ∃ z', fn_X6_readFunctions_L244 F sh n 60 x ko g z (nI i) = ko z' (x + 1) ∧ KX sh n z' kp kb b len J (cu (gIs b len Jo loc many m p)) ∧ (∀ q, gIs b len Jo loc many m p = .ok q → SrT z' kp (S ++ q.1) ∧ (S ++ q.1).length < q.2) ∧ FrKd kp [kp + 2] [6] [0, 1, 3] z z' := by
  intro m
  induction m with
  | zero =>
    intro i g z p S ei hg h hJ T hS
    obtain ⟨g, rfl⟩ : ∃ q, g = q + 1 := ⟨g - 1, by omega⟩
    have l20 := hJ.2.2.2.1
    unfold fn_X6_readFunctions_L244 fn_X6_readFunctions_B270
    rw [hJ.2.2.1, if_pos ((nI_leI (by omega) (by omega)).mpr (by omega))]
    refine ⟨z, rfl, h, fun q e => ?_, FrKd.rfl'⟩
    cases e
    rw [List.append_nil]
    exact ⟨T, hS⟩
  | succ m ih =>
    intro i g z p S ei hg h hJ T hS
    obtain ⟨g, rfl⟩ : ∃ q, g = q + 1 := ⟨g - 1, by omega⟩
    have l20 := hJ.2.2.2.1
    have hk := isP_ne h.1.2.1
    obtain ⟨z1, s1, s2, s3, s4⟩ := h.instr (F := F) hF ej hJ T hS
    unfold fn_X6_readFunctions_L244
    rw [hJ.2.2.1, if_neg (fun y => by have := (nI_leI (by omega) (by omega)).mp y; omega), if_pos h.is0, s1, cal_s, nI_1]
    unfold gIs
    cases e : gI1 b len Jo loc many p with
    | error w =>
      rw [e] at s2
      have s2' : KX sh n z1 kp kb b len J (.error w) := s2
      rw [s2'.l244_e (by omega)]
      exact ⟨z1, rfl, s2', fun q y => (by cases y), s4⟩
    | ok q =>
      rw [e] at s2
      have s2' : KX sh n z1 kp kb b len J (.ok q.2) := s2
      have pq : p < q.2 := gI1_lt e
      obtain ⟨z2, t1, t2, t3, t4⟩ := ih (i + 1) g z1 q.2 (S ++ [p]) (by omega) (by omega) s2' (hJ.fr ⟨hk.2, hk.1⟩ s4 (by simp) (by simp) (by simp)) s3 (by rw [List.length_append]; show S.length + 1 < _; omega)
      rw [t1, ok_bq]
      cases e2 : gIs b len Jo loc many m q.2 with
      | error w =>
        rw [e2] at t2
        exact ⟨z2, rfl, t2, fun q y => (by cases y), s4.trans t4⟩
      | ok q2 =>
        rw [e2] at t2
        refine ⟨z2, rfl, t2, fun q y => ?_, s4.trans t4⟩
        cases y
        have := t3 q2 e2
        rw [List.append_assoc] at this
        exact this
end
