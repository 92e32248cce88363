/-! BOTH LEDGERS: resources, by what each holds -/
def cntO (p : Nat → Bool) : Nat → Nat
  | 0 => 0
  | n + 1 => cntO p n + if p n then 1 else 0
theorem cntO_cg {p q : Nat → Bool} : ∀ n, (∀ i, i < n → q i = p i) → cntO q n = cntO p n
  | 0, _ => rfl
  | n + 1, h => by
    show cntO q n + (if q n then 1 else 0) = cntO p n + (if p n then 1 else 0)
    rw [cntO_cg n (fun i hi => h i (by omega)), h n (by omega)]
theorem cntO_on {p q : Nat → Bool} {r : Nat} (h0 : p r = false) (h1 : q r = true) (e : ∀ i, i ≠ r → q i = p i) : ∀ n, r < n → cntO q n = cntO p n + 1
  | 0, h => by omega
  | n + 1, h => by
    show cntO q n + (if q n then 1 else 0) = cntO p n + (if p n then 1 else 0) + 1
    by_cases c : r = n
    · subst c
      rw [cntO_cg r (fun i hi => e i (by omega)), h0, h1]
      simp
    · rw [cntO_on h0 h1 e n (by omega), e n (by omega)]
      omega
theorem cntO_all {p : Nat → Bool} : ∀ n, (∀ i, i < n → p i = true) → cntO p n = n
  | 0, _ => rfl
  | n + 1, h => by
    show cntO p n + (if p n then 1 else 0) = n + 1
    rw [cntO_all n (fun i hi => h i (by omega)), h n (by omega)]
    simp
theorem isS_of {so : Nat → Option Rsc} {a : Int64} {k r : Nat} (h : isS so a k r = true) : ∃ x, so r = some x ∧ x.1 = a ∧ x.2.1 = k := by
  cases q : so r with
  | none => rw [isS_n q] at h; exact absurd h (by simp)
  | some x =>
    rw [isS_s q] at h
    simp at h
    exact ⟨x, rfl, h.1, h.2⟩
theorem isS_to {so : Nat → Option Rsc} {a : Int64} {k r : Nat} {x : Rsc} (h : so r = some x) (h1 : x.1 = a) (h2 : x.2.1 = k) : isS so a k r = true := by
  rw [isS_s h]; simp [h1, h2]
/-- resources of both sides, each with its own -/
def RsP (E : Ev) (SF : Nat → List Nat) (nr : Nat) (rs : Nat → Int64 × Nat × Hp × Nat) (so : Nat → Option Rsc) : Prop := (∀ i, i < nr → (rs i).2.1 < 2 ^ 24 ∧ ∃ r x, r < 256 ∧ so r = some x ∧ x.1 = (rs i).1 ∧ x.2.1 = (rs i).2.1 ∧ ResR E SF (rs i).2.2.1 (rs i).2.2.2 (rs i).2.1 x.2.2) ∧ (∀ r x, r < 256 → so r = some x → ∃ i, i < nr ∧ (rs i).1 = x.1 ∧ (rs i).2.1 = x.2.1) ∧ (∀ i j, i < nr → j < nr → (rs i).1 = (rs j).1 → (rs i).2.1 = (rs j).2.1 → i = j) ∧ (∀ r r' x x', r < 256 → r' < 256 → so r = some x → so r' = some x' → x.1 = x'.1 → x.2.1 = x'.2.1 → r = r') ∧ cntO (fun r => (so r).isSome) 256 = nr
section
variable {E : Ev} {SF : Nat → List Nat} {nr : Nat} {rs : Nat → Int64 × Nat × Hp × Nat} {so : Nat → Option Rsc} {a : Int64} {k : Nat}
theorem fdR_k {i : Nat} (h : fdR nr rs a k = some i) : i < nr ∧ (rs i).1 = a ∧ (rs i).2.1 = k := by
  have q := fd_lt _ _ _ h
  have q2 := q.2.2
  simp at q2
  exact ⟨by omega, q2.1, q2.2⟩
theorem fdR_n (h : fdR nr rs a k = none) {i : Nat} (hi : i < nr) (h1 : (rs i).1 = a) (h2 : (rs i).2.1 = k) : False := by
  have := fd_no _ _ h i (by omega) (by omega)
  simp [h1, h2] at this
theorem fdS_k {r : Nat} (h : fdS so a k = some r) : r < 256 ∧ ∃ x, so r = some x ∧ x.1 = a ∧ x.2.1 = k := by
  have q := fd_lt _ _ _ h
  exact ⟨by omega, isS_of q.2.2⟩
theorem fdS_n (h : fdS so a k = none) {r : Nat} {x : Rsc} (hr : r < 256) (hx : so r = some x) (h1 : x.1 = a) (h2 : x.2.1 = k) : False := by
  have := fd_no _ _ h r (by omega) (by omega)
  rw [isS_to hx h1 h2] at this
  exact absurd this (by simp)
theorem RsP.r (h : RsP E SF nr rs so) : RsR E SF nr rs so := by
  obtain ⟨h1, h2, h3, h4, h5⟩ := h
  refine fun a k hk => ⟨fun q => ?_, fun i q => ?_⟩
  · cases w : fdS so a k with
    | none => rfl
    | some r =>
      obtain ⟨r1, x, x1, x2, x3⟩ := fdS_k w
      obtain ⟨i, i1, i2, i3⟩ := h2 r x r1 x1
      exact (fdR_n q i1 (i2.trans x2) (i3.trans x3)).elim
  · obtain ⟨i1, i2, i3⟩ := fdR_k q
    obtain ⟨_, r, x, r1, x1, x2, x3, x4⟩ := h1 i i1
    refine ⟨r, x, ?_, x1, by rw [i3] at x4; exact x4⟩
    cases w : fdS so a k with
    | none => exact (fdS_n w r1 x1 (x2.trans i2) (x3.trans i3)).elim
    | some r' =>
      obtain ⟨r1', x', y1, y2, y3⟩ := fdS_k w
      rw [h4 r' r x' x r1' r1 y1 x1 (by rw [y2, x2, i2]) (by rw [y3, x3, i3])]
/-- both find it, or neither -/
theorem RsP.iff (h : RsP E SF nr rs so) (hk : k < 2 ^ 24) : (fdR nr rs a k = none ↔ fdS so a k = none) := by
  constructor
  · exact (h.r a k hk).1
  · intro q
    cases w : fdR nr rs a k with
    | none => rfl
    | some i =>
      obtain ⟨r, x, x1, _⟩ := (h.r a k hk).2 i w
      rw [x1] at q; exact absurd q (by simp)
theorem RsP.free (h : RsP E SF nr rs so) (hn : nr < 256) : ∃ r, fdN so = some r := by
  cases w : fdN so with
  | some r => exact ⟨r, rfl⟩
  | none =>
    have := h.2.2.2.2
    rw [cntO_all 256 (fun i hi => by
      have := fd_no _ _ w i (by omega) (by omega)
      simp at this
      simpa using this)] at this
    omega
theorem RsP.rm (h : RsP E SF nr rs so) {i0 r0 : Nat} (hf : fdR nr rs a k = some i0) (hs : fdS so a k = some r0) : RsP E SF (nr - 1) (fun i => if i = i0 then rs (nr - 1) else rs i) (fun r => if r = r0 then none else so r) := by
  obtain ⟨h1, h2, h3, h4, h5⟩ := h
  obtain ⟨i1, i2, i3⟩ := fdR_k hf
  obtain ⟨r1, x0, x1, x2, x3⟩ := fdS_k hs
  have old : ∀ i, i < nr - 1 → ∃ j, j < nr ∧ j ≠ i0 ∧ (if i = i0 then rs (nr - 1) else rs i) = rs j ∧ j = (if i = i0 then nr - 1 else i) := fun i hi => by
    by_cases c : i = i0
    · exact ⟨nr - 1, by omega, by omega, by rw [if_pos c], by rw [if_pos c]⟩
    · exact ⟨i, by omega, c, by rw [if_neg c], by rw [if_neg c]⟩
  refine ⟨fun i hi => ?_, fun r x hr hx => ?_, fun i j hi hj e1 e2 => ?_, fun r r' x x' hr hr' hx hx' e1 e2 => ?_, ?_⟩
  · obtain ⟨j, j1, j2, j3, _⟩ := old i hi
    simp only [j3]
    obtain ⟨q1, r, x, q2, q3, q4, q5, q6⟩ := h1 j j1
    refine ⟨q1, r, x, q2, ?_, q4, q5, q6⟩
    have : r ≠ r0 := fun w => j2 (h3 j i0 j1 i1 (by
      subst w
      rw [x1] at q3
      have : x0 = x := by simpa using q3
      rw [i2, ← q4, ← this, x2]) (by
      subst w
      rw [x1] at q3
      have : x0 = x := by simpa using q3
      rw [i3, ← q5, ← this, x3]))
    rw [if_neg this]; exact q3
  · by_cases c : r = r0
    · simp only [if_pos c] at hx; exact absurd hx (by simp)
    · simp only [if_neg c] at hx
      obtain ⟨j, j1, j2, j3⟩ := h2 r x hr hx
      have jn : j ≠ i0 := fun w => c (h4 r r0 x x0 hr r1 hx x1 (by rw [← j2, w, i2, x2]) (by rw [← j3, w, i3, x3]))
      by_cases l : j = nr - 1
      · refine ⟨i0, by omega, ?_, ?_⟩
        · simp only [if_true]; rw [← l]; exact j2
        · simp only [if_true]; rw [← l]; exact j3
      · refine ⟨j, by omega, ?_, ?_⟩
        · simp only [if_neg jn]; exact j2
        · simp only [if_neg jn]; exact j3
  · obtain ⟨a1, b1, b2, b3, b4⟩ := old i hi
    obtain ⟨a2, c1, c2, c3, c4⟩ := old j hj
    simp only [b3, c3] at e1 e2
    have := h3 a1 a2 b1 c1 e1 e2
    rw [b4, c4] at this
    by_cases c : i = i0
    · by_cases c' : j = i0
      · omega
      · rw [if_pos c, if_neg c'] at this; omega
    · by_cases c' : j = i0
      · rw [if_neg c, if_pos c'] at this; omega
      · rw [if_neg c, if_neg c'] at this; exact this
  · by_cases c : r = r0
    · simp only [if_pos c] at hx; exact absurd hx (by simp)
    · by_cases c' : r' = r0
      · simp only [if_pos c'] at hx'; exact absurd hx' (by simp)
      · simp only [if_neg c] at hx
        simp only [if_neg c'] at hx'
        exact h4 r r' x x' hr hr' hx hx' e1 e2
  · have := cntO_on (p := fun r => (if r = r0 then none else so r).isSome) (q := fun r => (so r).isSome) (r := r0) (by simp) (by simp [x1]) (fun i hi => by simp [hi]) 256 r1
    show cntO (fun r => (if r = r0 then none else so r).isSome) 256 = nr - 1
    omega
theorem RsP.set (h : RsP E SF nr rs so) {i0 r0 sz : Nat} {Q : Hp} {En : List Ent} (hf : fdR nr rs a k = some i0) (hs : fdS so a k = some r0) (hR : ResR E SF Q sz k En) : RsP E SF nr (fun i => if i = i0 then ((rs i).1, (rs i).2.1, Q, sz) else rs i) (fun r => if r = r0 then some (a, k, En) else so r) := by
  obtain ⟨h1, h2, h3, h4, h5⟩ := h
  obtain ⟨i1, i2, i3⟩ := fdR_k hf
  obtain ⟨r1, x0, x1, x2, x3⟩ := fdS_k hs
  have ky : ∀ i, (if i = i0 then ((rs i).1, (rs i).2.1, Q, sz) else rs i).1 = (rs i).1 ∧ (if i = i0 then ((rs i).1, (rs i).2.1, Q, sz) else rs i).2.1 = (rs i).2.1 := fun i => by
    by_cases c : i = i0
    · rw [if_pos c]; exact ⟨rfl, rfl⟩
    · rw [if_neg c]; exact ⟨rfl, rfl⟩
  have ks : ∀ r x, (if r = r0 then some (a, k, En) else so r) = some x → ∃ y, so r = some y ∧ y.1 = x.1 ∧ y.2.1 = x.2.1 := fun r x hx => by
    by_cases c : r = r0
    · rw [if_pos c] at hx
      have : (a, k, En) = x := by simpa using hx
      rw [c, ← this]; exact ⟨x0, x1, x2, x3⟩
    · rw [if_neg c] at hx; exact ⟨x, hx, rfl, rfl⟩
  refine ⟨fun i hi => ?_, fun r x hr hx => ?_, fun i j hi hj e1 e2 => ?_, fun r r' x x' hr hr' hx hx' e1 e2 => ?_, ?_⟩
  · obtain ⟨q1, r, x, q2, q3, q4, q5, q6⟩ := h1 i hi
    by_cases c : i = i0
    · subst c
      simp only [if_true]
      exact ⟨q1, r0, (a, k, En), r1, if_pos rfl, i2.symm, i3.symm, by rw [i3]; exact hR⟩
    · simp only [if_neg c]
      refine ⟨q1, r, x, q2, ?_, q4, q5, q6⟩
      have : r ≠ r0 := fun w => c (h3 i i0 hi i1 (by
        subst w
        rw [x1] at q3
        have : x0 = x := by simpa using q3
        rw [i2, ← q4, ← this, x2]) (by
        subst w
        rw [x1] at q3
        have : x0 = x := by simpa using q3
        rw [i3, ← q5, ← this, x3]))
      rw [if_neg this]; exact q3
  · obtain ⟨y, y1, y2, y3⟩ := ks r x hx
    obtain ⟨j, j1, j2, j3⟩ := h2 r y hr y1
    exact ⟨j, j1, by rw [(ky j).1, j2, y2], by rw [(ky j).2, j3, y3]⟩
  · rw [(ky i).1, (ky j).1] at e1
    rw [(ky i).2, (ky j).2] at e2
    exact h3 i j hi hj e1 e2
  · obtain ⟨y, y1, y2, y3⟩ := ks r x hx
    obtain ⟨y', z1, z2, z3⟩ := ks r' x' hx'
    exact h4 r r' y y' hr hr' y1 z1 (by rw [y2, z2, e1]) (by rw [y3, z3, e2])
  · rw [← h5]
    refine cntO_cg 256 (fun i hi => ?_)
    by_cases c : i = r0
    · simp [c, x1]
    · simp [c]
theorem RsP.new (h : RsP E SF nr rs so) {r0 sz : Nat} {Q : Hp} {En : List Ent} (hk : k < 2 ^ 24) (hf : fdR nr rs a k = none) (hn : fdN so = some r0) (hR : ResR E SF Q sz k En) : RsP E SF (nr + 1) (fun i => if i = nr then (a, k, Q, sz) else rs i) (fun r => if r = r0 then some (a, k, En) else so r) := by
  have hs := (h.iff hk).mp hf
  obtain ⟨h1, h2, h3, h4, h5⟩ := h
  have q := fd_lt _ _ _ hn
  have r1 : r0 < 256 := by omega
  have s0 : so r0 = none := by simpa using q.2.2
  refine ⟨fun i hi => ?_, fun r x hr hx => ?_, fun i j hi hj e1 e2 => ?_, fun r r' x x' hr hr' hx hx' e1 e2 => ?_, ?_⟩
  · by_cases c : i = nr
    · simp only [if_pos c]
      exact ⟨hk, r0, (a, k, En), r1, if_pos rfl, rfl, rfl, hR⟩
    · simp only [if_neg c]
      obtain ⟨q1, r, x, q2, q3, q4, q5, q6⟩ := h1 i (by omega)
      refine ⟨q1, r, x, q2, ?_, q4, q5, q6⟩
      have : r ≠ r0 := fun w => by rw [w, s0] at q3; exact absurd q3 (by simp)
      rw [if_neg this]; exact q3
  · by_cases c : r = r0
    · simp only [if_pos c] at hx
      have : (a, k, En) = x := by simpa using hx
      refine ⟨nr, by omega, ?_, ?_⟩ <;> simp [← this]
    · simp only [if_neg c] at hx
      obtain ⟨j, j1, j2, j3⟩ := h2 r x hr hx
      refine ⟨j, by omega, ?_, ?_⟩
      · simp only [if_neg (show j ≠ nr by omega)]; exact j2
      · simp only [if_neg (show j ≠ nr by omega)]; exact j3
  · by_cases c : i = nr
    · by_cases c' : j = nr
      · omega
      · simp only [if_pos c, if_neg c'] at e1 e2
        exact (fdR_n hf (show j < nr by omega) e1.symm e2.symm).elim
    · by_cases c' : j = nr
      · simp only [if_neg c, if_pos c'] at e1 e2
        exact (fdR_n hf (show i < nr by omega) e1 e2).elim
      · simp only [if_neg c, if_neg c'] at e1 e2
        exact h3 i j (by omega) (by omega) e1 e2
  · by_cases c : r = r0
    · by_cases c' : r' = r0
      · omega
      · simp only [if_pos c] at hx
        simp only [if_neg c'] at hx'
        have : (a, k, En) = x := by simpa using hx
        rw [← this] at e1 e2
        exact (fdS_n hs hr' hx' e1.symm e2.symm).elim
    · by_cases c' : r' = r0
      · simp only [if_neg c] at hx
        simp only [if_pos c'] at hx'
        have : (a, k, En) = x' := by simpa using hx'
        rw [← this] at e1 e2
        exact (fdS_n hs hr hx e1 e2).elim
      · simp only [if_neg c] at hx
        simp only [if_neg c'] at hx'
        exact h4 r r' x x' hr hr' hx hx' e1 e2
  · have := cntO_on (p := fun r => (so r).isSome) (q := fun r => (if r = r0 then some (a, k, En) else so r).isSome) (r := r0) (by simp [s0]) (by simp) (fun i hi => by simp [hi]) 256 r1
    show cntO (fun r => (if r = r0 then some (a, k, En) else so r).isSome) 256 = nr + 1
    omega
end
