/-! A MODULE AS BYTES: what a picture says -/
def Lst (b : Nat → Nat) (len p : Nat) (ts : List Ty) : Prop := p < len ∧ b p = ts.length ∧ ts.length ≤ 32 ∧ AtL b len true (p + 1) ts
def StP (b : Nat → Nat) (len : Nat) (s : SP) : Prop := s.1 + 1 < len ∧ b s.1 = s.2.1 ∧ s.2.1 ≤ 15 ∧ b (s.1 + 1) = s.2.2.length ∧ 1 ≤ s.2.2.length ∧ s.2.2.length ≤ 16 ∧ AtL b len false (s.1 + 2) s.2.2
def FoP (b : Nat → Nat) (len p : Nat) : Prop := p + 3 < len ∧ b (p + 3) ≤ 15
def CaP (b : Nat → Nat) (len : Nat) (c : CP) : Prop := c.1 + 3 < len ∧ b (c.1 + 3) ≤ 7 ∧ (Lst b len (c.1 + 4) c.2.1 ∧ c.2.1.length ≤ 8) ∧ Lst b len (endL (c.1 + 5) c.2.1) c.2.2 ∧ c.2.2.length ≤ 8
def ElP (b : Nat → Nat) (len : Nat) (e : Nat × Ty) : Prop := RdT b len e.1 false (e.2, e.1 + e.2.length)
def InP (b : Nat → Nat) (len c : Nat) : Prop := c < len ∧ b c ≤ 59 ∧ c + 1 + opB (b c) ≤ len ∧ (b c = 52 → b (c + 2) ≤ 64)
def GpP (b : Nat → Nat) (len : Nat) (g : GP) : Prop := g.1 < len ∧ b g.1 = g.2.1 ∧ g.2.1 ≤ 7 ∧ (Lst b len (g.1 + 1) g.2.2.1 ∧ g.2.2.1.length ≤ 8) ∧ (Lst b len (endL (g.1 + 2) g.2.2.1) g.2.2.2.1 ∧ g.2.2.2.1.length ≤ 8) ∧ Lst b len (endL (endL (g.1 + 2) g.2.2.1 + 1) g.2.2.2.1) g.2.2.2.2.1 ∧ (1 ≤ g.2.2.2.2.2.length ∧ g.2.2.2.2.2.length ≤ 1024) ∧ ∀ c, c ∈ g.2.2.2.2.2 → InP b len c
def PicOk (b : Nat → Nat) (len : Nat) (M : MP) : Prop := (M.1.length ≤ 32 ∧ ∀ s, s ∈ M.1 → StP b len s) ∧ (M.2.1.length ≤ 32 ∧ ∀ p, p ∈ M.2.1 → FoP b len p) ∧ (M.2.2.1.length ≤ 32 ∧ ∀ c, c ∈ M.2.2.1 → CaP b len c) ∧ (M.2.2.2.1.length ≤ 32 ∧ ∀ e, e ∈ M.2.2.2.1 → ElP b len e) ∧ M.2.2.2.2.length ≤ 64 ∧ ∀ g, g ∈ M.2.2.2.2 → GpP b len g
section
variable {b : Nat → Nat} {len : Nat}
theorem pLs_st {most p : Nat} {q : List Ty × Nat} (hm : most ≤ 32) (h : pLs b len none most p = .ok q) : Lst b len p q.1 ∧ q.1.length ≤ most ∧ q.2 = endL (p + 1) q.1 := by
  obtain ⟨a, c, d, e, f⟩ := pLs_at h
  exact ⟨⟨a, c, by omega, e⟩, d, f⟩
theorem pSt_p {p : Nat} {q : SP × Nat} (h : pSt b len p = .ok q) : StP b len q.1 := by
  unfold pSt at h
  cases a1 : rN b len 0 15 p with
  | error x => rw [a1] at h; cases h
  | ok x =>
    rw [a1, ok_bq] at h
    cases a2 : rN b len 1 16 x.2 with
    | error x => rw [a2] at h; cases h
    | ok y =>
      rw [a2, ok_bq] at h
      cases a3 : pTs b len none false y.1 y.2 with
      | error u => rw [a3] at h; cases h
      | ok u =>
        rw [a3] at h; cases h
        obtain ⟨_, l2, l3, l4, l5⟩ := rN_le a1
        obtain ⟨m1, m2, m3, m4, m5⟩ := rN_le a2
        obtain ⟨i1, i2⟩ := pTs_at y.1 a3
        have il := (pTs_le y.1 a3).2
        rw [l5] at m3 m4 m5
        rw [m5] at i1
        refine ⟨m4, l3.symm, l2, ?_, ?_, ?_, i1⟩
        · show b (p + 1) = u.1.length; omega
        · show 1 ≤ u.1.length; omega
        · show u.1.length ≤ 16; omega
theorem pSs_p : ∀ (k : Nat) {p : Nat} {q : List SP × Nat}, pSs b len k p = .ok q → ∀ s, s ∈ q.1 → StP b len s := by
  intro k
  induction k with
  | zero => intro p q h s hs; unfold pSs at h; cases h; cases hs
  | succ k ih =>
    intro p q h s hs
    unfold pSs at h
    cases e : pSt b len p with
    | error x => rw [e] at h; cases h
    | ok x =>
      rw [e, ok_bq] at h
      cases e2 : pSs b len k x.2 with
      | error y => rw [e2] at h; cases h
      | ok y =>
        rw [e2] at h; cases h
        rcases List.mem_cons.mp hs with r | r
        · rw [r]; exact pSt_p e
        · exact ih e2 s r
theorem pFos_p : ∀ (k : Nat) {p : Nat} {q : List Nat × Nat}, pFos b len k p = .ok q → ∀ s, s ∈ q.1 → FoP b len s := by
  intro k
  induction k with
  | zero => intro p q h s hs; unfold pFos at h; cases h; cases hs
  | succ k ih =>
    intro p q h s hs
    unfold pFos at h
    cases e : pFo b len p with
    | error x => rw [e] at h; cases h
    | ok x =>
      rw [e, ok_bq] at h
      cases e2 : pFos b len k x.2 with
      | error y => rw [e2] at h; cases h
      | ok y =>
        rw [e2] at h; cases h
        rcases List.mem_cons.mp hs with r | r
        · rw [r]
          unfold pFo at e
          cases a1 : sk len 3 p with
          | error u => rw [a1] at e; cases e
          | ok u =>
            rw [a1, ok_bq] at e
            cases a2 : rN b len 0 15 u.2 with
            | error v => rw [a2] at e; cases e
            | ok v =>
              obtain ⟨_, k2⟩ := sk_ok a1
              obtain ⟨_, l2, l3, l4, _⟩ := rN_le a2
              rw [k2] at l3 l4
              exact ⟨l4, by omega⟩
        · exact ih e2 s r
theorem pCs_p : ∀ (k : Nat) {p : Nat} {q : List CP × Nat}, pCs b len k p = .ok q → ∀ s, s ∈ q.1 → CaP b len s := by
  intro k
  induction k with
  | zero => intro p q h s hs; unfold pCs at h; cases h; cases hs
  | succ k ih =>
    intro p q h s hs
    unfold pCs at h
    cases e : pCa b len p with
    | error x => rw [e] at h; cases h
    | ok x =>
      rw [e, ok_bq] at h
      cases e2 : pCs b len k x.2 with
      | error y => rw [e2] at h; cases h
      | ok y =>
        rw [e2] at h; cases h
        rcases List.mem_cons.mp hs with r | r
        · rw [r]
          unfold pCa at e
          cases a1 : sk len 3 p with
          | error u => rw [a1] at e; cases e
          | ok u =>
            rw [a1, ok_bq] at e
            cases a2 : rN b len 0 7 u.2 with
            | error v => rw [a2] at e; cases e
            | ok v =>
              rw [a2, ok_bq] at e
              cases a3 : pLs b len none 8 v.2 with
              | error t => rw [a3] at e; cases e
              | ok t =>
                rw [a3, ok_bq] at e
                cases a4 : pLs b len none 8 t.2 with
                | error m => rw [a4] at e; cases e
                | ok m =>
                  rw [a4] at e; cases e
                  obtain ⟨_, k2⟩ := sk_ok a1
                  obtain ⟨_, l2, l3, l4, l5⟩ := rN_le a2
                  obtain ⟨g1, g2, g3⟩ := pLs_st (by omega) a3
                  obtain ⟨f1, f2, f3⟩ := pLs_st (by omega) a4
                  rw [k2] at l3 l4 l5
                  rw [l5] at g1 g3
                  rw [g3] at f1
                  exact ⟨l4, by show b (p + 3) ≤ 7; omega, ⟨g1, g2⟩, f1, f2⟩
        · exact ih e2 s r
theorem pEs_p : ∀ (k : Nat) {p : Nat} {q : List (Nat × Ty) × Nat}, pEs b len k p = .ok q → ∀ s, s ∈ q.1 → ElP b len s := by
  intro k
  induction k with
  | zero => intro p q h s hs; unfold pEs at h; cases h; cases hs
  | succ k ih =>
    intro p q h s hs
    unfold pEs at h
    cases e : rT b len none false p with
    | error x => rw [e] at h; cases h
    | ok x =>
      rw [e, ok_bq] at h
      cases e2 : pEs b len k x.2 with
      | error y => rw [e2] at h; cases h
      | ok y =>
        rw [e2] at h; cases h
        rcases List.mem_cons.mp hs with r | r
        · rw [r]
          have t := rT_at e
          show RdT b len p false (x.1, p + x.1.length)
          rw [← t.2.1]; exact t
        · exact ih e2 s r
theorem pI1_p {p : Nat} {q : Unit × Nat} (h : pI1 b len p = .ok q) : InP b len p := by
  unfold pI1 at h
  cases e : rBy b len p with
  | error x => rw [e] at h; cases h
  | ok x =>
    obtain ⟨e1, e2⟩ := rBy_ok e
    subst e2
    rw [e, ok_bq] at h
    have h' : (if 59 < b p then .error (5, p) else if b p = 52 then rBy b len (p + 1) >>= fun a => rN b len 0 64 a.2 >>= fun c => .ok ((), c.2) else sk len (opB (b p)) (p + 1) : Ex (Unit × Nat)) = .ok q := h
    by_cases c : 59 < b p
    · rw [if_pos c] at h'; cases h'
    · rw [if_neg c] at h'
      by_cases d : b p = 52
      · rw [if_pos d] at h'
        cases e3 : rBy b len (p + 1) with
        | error x => rw [e3] at h'; cases h'
        | ok x =>
          obtain ⟨e4, e5⟩ := rBy_ok e3
          subst e5
          rw [e3, ok_bq] at h'
          cases e6 : rN b len 0 64 (p + 1 + 1) with
          | error x => rw [e6] at h'; cases h'
          | ok x =>
            obtain ⟨_, m2, m3, l4, l5⟩ := rN_le e6
            have o2 : opB (b p) = 2 := by rw [d]; rfl
            exact ⟨e1, by omega, by rw [o2]; omega, fun _ => by rw [m3] at m2; exact m2⟩
      · rw [if_neg d] at h'
        obtain ⟨s1, s2⟩ := sk_ok h'
        exact ⟨e1, by omega, by omega, fun x => absurd x d⟩
theorem pIs_p : ∀ (k : Nat) {p : Nat} {q : List Nat × Nat}, pIs b len k p = .ok q → q.1.length = k ∧ ∀ c, c ∈ q.1 → InP b len c := by
  intro k
  induction k with
  | zero => intro p q h; unfold pIs at h; cases h; exact ⟨rfl, fun c hc => by cases hc⟩
  | succ k ih =>
    intro p q h
    unfold pIs at h
    cases e : pI1 b len p with
    | error x => rw [e] at h; cases h
    | ok x =>
      rw [e, ok_bq] at h
      cases e2 : pIs b len k x.2 with
      | error y => rw [e2] at h; cases h
      | ok y =>
        rw [e2] at h; cases h
        obtain ⟨i1, i2⟩ := ih e2
        refine ⟨by show y.1.length + 1 = k + 1; omega, fun c hc => ?_⟩
        rcases List.mem_cons.mp hc with r | r
        · rw [r]; exact pI1_p e
        · exact i2 c r
end
