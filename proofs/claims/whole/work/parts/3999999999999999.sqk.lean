/-! A MODULE AS BYTES: what is read lies there -/
def AtT (b : Nat → Nat) (p : Nat) (t : Ty) : Prop := ∀ i, i < t.length → t.getD i 0 = b (p + i)
def WfT : Ty → Prop
  | [] => False
  | [c] => 1 ≤ c ∧ c ≤ 5
  | c :: d :: t => (c = 6 ∧ t = []) ∨ (6 < c ∧ WfT (d :: t))
theorem AtT.app {b : Nat → Nat} {p : Nat} {t s : Ty} (h : AtT b p t) (g : AtT b (p + t.length) s) : AtT b p (t ++ s) := by
  intro i hi
  rw [List.length_append] at hi
  by_cases c : i < t.length
  · rw [List.getD_eq_getElem?_getD, List.getElem?_append_left c, ← List.getD_eq_getElem?_getD]; exact h i c
  · rw [List.getD_eq_getElem?_getD, List.getElem?_append_right (by omega), ← List.getD_eq_getElem?_getD, g (i - t.length) (by omega)]
    congr 1; omega
theorem AtT.one {b : Nat → Nat} {p c : Nat} (h : c = b p) : AtT b p [c] := fun i hi => by
  have : i = 0 := by simp at hi; omega
  subst this; exact h
theorem AtT.two {b : Nat → Nat} {p c d : Nat} (h : c = b p) (g : d = b (p + 1)) : AtT b p [c, d] := AtT.app (t := [c]) (s := [d]) (AtT.one h) (AtT.one g)
theorem AtT.tl {b : Nat → Nat} {p c : Nat} {t : Ty} (h : AtT b p (c :: t)) : c = b p ∧ AtT b (p + 1) t := by
  refine ⟨h 0 (by simp), fun i hi => ?_⟩
  have := h (i + 1) (by simp; omega)
  rw [show p + 1 + i = p + (i + 1) by omega, ← this]; rfl
theorem WfT.app : ∀ {t s : Ty}, (∀ x, x ∈ t → 6 < x) → WfT s → WfT (t ++ s)
  | [], s, _, h => h
  | c :: t, s, ht, h => by
    have i := WfT.app (t := t) (s := s) (fun x hx => ht x (by simp [hx])) h
    have hc := ht c (by simp)
    cases e : t ++ s with
    | nil => rw [e] at i; exact i.elim
    | cons d u =>
      show WfT (c :: (t ++ s))
      rw [e]
      rw [e] at i
      exact Or.inr ⟨hc, i⟩
/-- what reading a type comes to -/
def RdT (b : Nat → Nat) (len p : Nat) (rf : Bool) (q : Ty × Nat) : Prop := AtT b p q.1 ∧ q.2 = p + q.1.length ∧ q.2 ≤ len ∧ WfT q.1 ∧ (∃ (r : Ty) (k : Nat) (s : Ty), q.1 = r ++ List.replicate k 7 ++ s ∧ (r = [] ∨ (rf = true ∧ (r = [8] ∨ r = [9]))) ∧ k ≤ 4 ∧ ((∃ c, s = [c] ∧ 1 ≤ c ∧ c ≤ 5) ∨ ∃ y, s = [6, y] ∧ y = b (q.2 - 1)))
theorem rTe_at {b : Nat → Nat} {len : Nat} {J : Option Nat} {r : Ty} {k : Nat} {w p0 : Nat} {rf : Bool} {q : Ty × Nat} (h : rTe b len J (r ++ List.replicate k 7) w (b w) (w + 1) = .ok q) (hw : w < len) (ha : AtT b p0 (r ++ List.replicate k 7)) (hw0 : w = p0 + (r ++ List.replicate k 7).length) (hr : r = [] ∨ (rf = true ∧ (r = [8] ∨ r = [9]))) (hk : k ≤ 4) : RdT b len p0 rf q := by
  have g6 : ∀ x, x ∈ r ++ List.replicate k 7 → 6 < x := fun x hx => by
    rcases List.mem_append.mp hx with h1 | h1
    · rcases hr with e | ⟨_, e | e⟩
      · rw [e] at h1; cases h1
      · rw [e] at h1; have : x = 8 := by simpa using h1
        omega
      · rw [e] at h1; have : x = 9 := by simpa using h1
        omega
    · have := (List.mem_replicate.mp h1).2; omega
  unfold rTe at h
  by_cases c1 : b w < 1 ∨ 6 < b w
  · rw [if_pos c1] at h; cases h
  rw [if_neg c1] at h
  by_cases c6 : b w = 6
  · rw [if_pos c6] at h
    cases e : rBy b len (w + 1) with
    | error x => rw [e] at h; cases h
    | ok x =>
      obtain ⟨e1, e2⟩ := rBy_ok e
      subst e2
      rw [e, ok_bq] at h
      have h' : q = (r ++ List.replicate k 7 ++ [6, b (w + 1)], w + 2) := by
        cases J with
        | none => cases h; rfl
        | some m =>
          have h2 : (if decide (m ≤ b (w + 1)) = true then .error (7, w + 1) else .ok (r ++ List.replicate k 7 ++ [6, b (w + 1)], w + 2) : Ex (Ty × Nat)) = .ok q := h
          by_cases d : decide (m ≤ b (w + 1)) = true
          · rw [if_pos d] at h2; cases h2
          · rw [if_neg d] at h2; cases h2; rfl
      subst h'
      refine ⟨ha.app (AtT.two (by rw [← hw0]; exact c6.symm) (by rw [← hw0])), ?_, by show w + 2 ≤ len; omega, WfT.app g6 (Or.inl ⟨rfl, rfl⟩), r, k, _, rfl, hr, hk, Or.inr ⟨_, rfl, by show b (w + 1) = b (w + 2 - 1); rfl⟩⟩
      show w + 2 = p0 + (r ++ List.replicate k 7 ++ [6, b (w + 1)]).length
      rw [List.length_append]; show w + 2 = p0 + ((r ++ List.replicate k 7).length + 2); omega
  · rw [if_neg c6] at h
    cases h
    refine ⟨ha.app (AtT.one (by rw [← hw0])), ?_, by show w + 1 ≤ len; omega, WfT.app g6 ⟨by omega, by omega⟩, r, k, _, rfl, hr, hk, Or.inl ⟨_, rfl, by omega, by omega⟩⟩
    show w + 1 = p0 + (r ++ List.replicate k 7 ++ [b w]).length
    rw [List.length_append]; show w + 1 = p0 + ((r ++ List.replicate k 7).length + 1); omega
theorem rTv_at {b : Nat → Nat} {len : Nat} {J : Option Nat} {r : Ty} {p0 : Nat} {rf : Bool} (hr : r = [] ∨ (rf = true ∧ (r = [8] ∨ r = [9]))) : ∀ (m k w : Nat) {q : Ty × Nat}, k + m = 4 → rTv b len J m (r ++ List.replicate k 7) w (b w) (w + 1) = .ok q → w < len → AtT b p0 (r ++ List.replicate k 7) → w = p0 + (r ++ List.replicate k 7).length → RdT b len p0 rf q := by
  intro m
  induction m with
  | zero => intro k w q ek h hw ha hw0; exact rTe_at h hw ha hw0 hr (by omega)
  | succ m ih =>
    intro k w q ek h hw ha hw0
    unfold rTv at h
    by_cases c7 : b w = 7
    · rw [if_pos c7] at h
      cases e : rBy b len (w + 1) with
      | error x => rw [e] at h; cases h
      | ok x =>
        obtain ⟨e1, e2⟩ := rBy_ok e
        subst e2
        rw [e, ok_bq] at h
        have er : r ++ List.replicate k 7 ++ [7] = r ++ List.replicate (k + 1) 7 := by rw [List.append_assoc, ← List.replicate_succ']
        rw [er] at h
        have ha2 : AtT b p0 (r ++ List.replicate (k + 1) 7) := by rw [← er]; exact ha.app (AtT.one (by rw [← hw0]; exact c7.symm))
        exact ih (k + 1) (w + 1) (by omega) h e1 ha2 (by rw [← er, List.length_append]; show w + 1 = p0 + ((r ++ List.replicate k 7).length + 1); omega)
    · rw [if_neg c7] at h; exact rTe_at h hw ha hw0 hr (by omega)
theorem rT_at {b : Nat → Nat} {len : Nat} {J : Option Nat} {rf : Bool} {p : Nat} {q : Ty × Nat} (h : rT b len J rf p = .ok q) : RdT b len p rf q := by
  unfold rT at h
  cases e : rBy b len p with
  | error x => rw [e] at h; cases h
  | ok x =>
    obtain ⟨e1, e2⟩ := rBy_ok e
    subst e2
    rw [e, ok_bq] at h
    have h0 : (if (rf && (b p == 8 || b p == 9)) = true then rBy b len (p + 1) >>= fun r => rTv b len J 4 [b p] (p + 1) r.1 r.2 else rTv b len J 4 [] p (b p) (p + 1)) = .ok q := h
    by_cases c : (rf && (b p == 8 || b p == 9)) = true
    · rw [if_pos c] at h0
      have cc : rf = true ∧ (b p = 8 ∨ b p = 9) := by simpa using c
      cases e3 : rBy b len (p + 1) with
      | error x => rw [e3] at h0; cases h0
      | ok x =>
        obtain ⟨e4, e5⟩ := rBy_ok e3
        subst e5
        rw [e3, ok_bq] at h0
        exact rTv_at (r := [b p]) (p0 := p) (Or.inr ⟨cc.1, by rcases cc.2 with x | x <;> rw [x] <;> simp⟩) 4 0 (p + 1) (by omega) h0 e4 (AtT.one rfl) (by simp)
    · rw [if_neg c] at h0
      exact rTv_at (r := []) (p0 := p) (Or.inl rfl) 4 0 p (by omega) h0 e1 (fun i hi => absurd hi (by simp)) (by simp)
theorem RdT.len {b : Nat → Nat} {len p : Nat} {rf : Bool} {q : Ty × Nat} (h : RdT b len p rf q) : q.1.length ≤ 7 ∧ (isR q.1 = false → q.1.length ≤ 6) ∧ (rf = false → isR q.1 = false) := by
  obtain ⟨_, _, _, _, r, k, s, e, hr, hk, hs⟩ := h
  have sl : 1 ≤ s.length ∧ s.length ≤ 2 := by
    rcases hs with ⟨c, hc, _⟩ | ⟨y, hy, _⟩
    · rw [hc]; simp
    · rw [hy]; simp
  have hd0 : r = [] → isR q.1 = false := fun er => by
    rw [e, er, List.nil_append]
    cases k with
    | zero =>
      rw [List.replicate_zero, List.nil_append]
      rcases hs with ⟨c, hc, c1, c5⟩ | ⟨y, hy, _⟩
      · rw [hc]; unfold isR hdT; rw [beq_eq_false_iff_ne.mpr (show [c].headD 0 ≠ 8 by show c ≠ 8; omega), beq_eq_false_iff_ne.mpr (show [c].headD 0 ≠ 9 by show c ≠ 9; omega)]; rfl
      · rw [hy]; rfl
    | succ k => rw [List.replicate_succ]; rfl
  have ln : q.1.length = r.length + k + s.length := by rw [e, List.length_append, List.length_append, List.length_replicate]
  rcases hr with er | ⟨rt, er | er⟩
  · have : r.length = 0 := by rw [er]; rfl
    exact ⟨by omega, fun _ => by omega, fun _ => hd0 er⟩
  · have : r.length = 1 := by rw [er]; rfl
    refine ⟨by omega, fun x => ?_, fun x => by rw [rt] at x; cases x⟩
    rw [e, er] at x; cases x
  · have : r.length = 1 := by rw [er]; rfl
    refine ⟨by omega, fun x => ?_, fun x => by rw [rt] at x; cases x⟩
    rw [e, er] at x; cases x
