/-! BOTH MACHINES SIDE BY SIDE: slots of frames and the class's own nodes -/
/-- slots by places: 0 a stack's, 1 a local's -/
def Vs (fr : Nat → Fm) (cs cl : Nat → Nat → Nat) (nf a d k : Nat) : Option (Sl × Nat) := if a = 0 then (if d < nf ∧ k < (fr d).2.2.1.1 then some ((fr d).2.2.1.2 k, cs d k) else none) else if a = 1 then (if d < nf then ((fr d).2.1 k).map (fun s => (s, cl d k)) else none) else none
def SlR (phi : Nat → Nat) (Rn : Nat → Option Nat) (s : Sl) (c : Nat) : Prop := (s.2.1 = 0 → c = phi s.1) ∧ (s.2.1 ≠ 0 → Rn c = some s.1)
/-- each reference of the class has one slot -/
def SRel (phi : Nat → Nat) (Rn : Nat → Option Nat) (V : Nat → Nat → Nat → Option (Sl × Nat)) : Prop := (∀ a d k s c, V a d k = some (s, c) → SlR phi Rn s c) ∧ ∀ a d k a' d' k' s s' c, V a d k = some (s, c) → V a' d' k' = some (s', c) → s.2.1 ≠ 0 → s'.2.1 ≠ 0 → a = a' ∧ d = d' ∧ k = k'
theorem SRel.relay {phi phi' : Nat → Nat} {Rn Rn' : Nat → Option Nat} {V V' : Nat → Nat → Nat → Option (Sl × Nat)} (h : SRel phi Rn V) (ρ : Nat → Nat → Nat → Nat × Nat × Nat) (P : Nat × Nat × Nat) (h1 : ∀ a d k s c, V' a d k = some (s, c) → SlR phi' Rn' s c ∧ (s.2.1 ≠ 0 → (∃ a0 d0 k0 s0, V a0 d0 k0 = some (s0, c) ∧ s0.2.1 ≠ 0 ∧ ρ a0 d0 k0 = (a, d, k)) ∨ ((∀ a0 d0 k0 s0, V a0 d0 k0 = some (s0, c) → s0.2.1 = 0) ∧ (a, d, k) = P))) : SRel phi' Rn' V' := by
  refine ⟨fun a d k s c q => (h1 a d k s c q).1, fun a d k a' d' k' s s' c q q' r r' => ?_⟩
  rcases (h1 a d k s c q).2 r with ⟨a0, d0, k0, s0, e1, e2, e3⟩ | ⟨e1, e2⟩
  · rcases (h1 a' d' k' s' c q').2 r' with ⟨a1, d1, k1, s1, f1, f2, f3⟩ | ⟨f1, f2⟩
    · obtain ⟨g1, g2, g3⟩ := h.2 a0 d0 k0 a1 d1 k1 s0 s1 c e1 f1 e2 f2
      subst g1; subst g2; subst g3
      rw [e3] at f3
      simp only [Prod.mk.injEq] at f3
      exact f3
    · exact absurd (f1 a0 d0 k0 s0 e1) e2
  · rcases (h1 a' d' k' s' c q').2 r' with ⟨a1, d1, k1, s1, f1, f2, f3⟩ | ⟨f1, f2⟩
    · exact absurd (e1 a1 d1 k1 s1 f1) f2
    · rw [← f2] at e2
      simp only [Prod.mk.injEq] at e2
      exact e2
section
variable {fr : Nat → Fm} {cs cl : Nat → Nat → Nat} {nf : Nat} {phi phi' : Nat → Nat} {Rn Rn' : Nat → Option Nat}
theorem Vs_0 {d k : Nat} (h : d < nf) (hk : k < (fr d).2.2.1.1) : Vs fr cs cl nf 0 d k = some ((fr d).2.2.1.2 k, cs d k) := by
  unfold Vs
  rw [if_pos rfl, if_pos ⟨h, hk⟩]
theorem Vs_1 {d k : Nat} {s : Sl} (h : d < nf) (hk : (fr d).2.1 k = some s) : Vs fr cs cl nf 1 d k = some (s, cl d k) := by
  unfold Vs
  rw [if_neg (by decide), if_pos rfl, if_pos h, hk]
  rfl
theorem Vs_c {a d k c : Nat} {s : Sl} (h : Vs fr cs cl nf a d k = some (s, c)) : d < nf ∧ ((a = 0 ∧ k < (fr d).2.2.1.1 ∧ s = (fr d).2.2.1.2 k ∧ c = cs d k) ∨ (a = 1 ∧ (fr d).2.1 k = some s ∧ c = cl d k)) := by
  unfold Vs at h
  by_cases c0 : a = 0
  · rw [if_pos c0] at h
    by_cases c1 : d < nf ∧ k < (fr d).2.2.1.1
    · rw [if_pos c1] at h
      simp only [Option.some.injEq, Prod.mk.injEq] at h
      exact ⟨c1.1, Or.inl ⟨c0, c1.2, h.1.symm, h.2.symm⟩⟩
    · rw [if_neg c1] at h; exact absurd h (by simp)
  · rw [if_neg c0] at h
    by_cases c1 : a = 1
    · rw [if_pos c1] at h
      by_cases c2 : d < nf
      · rw [if_pos c2] at h
        cases q : (fr d).2.1 k with
        | none => rw [q] at h; exact absurd h (by simp)
        | some t =>
          rw [q] at h
          simp only [Option.map_some, Option.some.injEq, Prod.mk.injEq] at h
          exact ⟨c2, Or.inr ⟨c1, by rw [← h.1], h.2.symm⟩⟩
      · rw [if_neg c2] at h; exact absurd h (by simp)
    · rw [if_neg c1] at h; exact absurd h (by simp)
/-- the topmost frame is another one -/
theorem Vs_t {x : Fm} {cs' cl' : Nat → Nat → Nat} (e : ∀ d k, d ≠ nf - 1 → cs' d k = cs d k ∧ cl' d k = cl d k) {a d k c : Nat} {s : Sl} (h : Vs (setF fr (nf - 1) x) cs' cl' nf a d k = some (s, c)) : (d ≠ nf - 1 ∧ Vs fr cs cl nf a d k = some (s, c)) ∨ (d = nf - 1 ∧ d < nf ∧ ((a = 0 ∧ k < x.2.2.1.1 ∧ s = x.2.2.1.2 k ∧ c = cs' d k) ∨ (a = 1 ∧ x.2.1 k = some s ∧ c = cl' d k))) := by
  obtain ⟨h1, h2⟩ := Vs_c h
  by_cases q : d = nf - 1
  · subst q
    rw [setF_s] at h2
    exact Or.inr ⟨rfl, h1, h2⟩
  · rw [setF_n q] at h2
    left
    refine ⟨q, ?_⟩
    rcases h2 with ⟨a1, a2, a3, a4⟩ | ⟨a1, a2, a3⟩
    · subst a1
      rw [Vs_0 h1 a2, a3, a4, (e d k q).1]
    · subst a1
      rw [Vs_1 h1 a2, a3, (e d k q).2]
/-- the class's nodes have names below a bound -/
def SlLt (m : Nat) (V : Nat → Nat → Nat → Option (Sl × Nat)) : Prop := ∀ a d k s c, V a d k = some (s, c) → s.1 < m
/-- n are taken, one is given -/
theorem SRel.psh (h : SRel phi Rn (Vs fr cs cl nf)) (n0 : 0 < nf) {a v : Nat} {s : Sl} (ha : a ≤ (fr (nf - 1)).2.2.1.1) (hp : ∀ x d k t c, Vs fr cs cl nf x d k = some (t, c) → (x, d, k) ≠ (0, nf - 1, a) → ¬ (x = 0 ∧ d = nf - 1 ∧ a ≤ k) → SlR phi' Rn' t c) (hs : SlR phi' Rn' s v) (hf : s.2.1 ≠ 0 → (∀ x d k t, Vs fr cs cl nf x d k = some (t, v) → t.2.1 ≠ 0 → x = 0 ∧ d = nf - 1 ∧ a ≤ k)) : SRel phi' Rn' (Vs (setF fr (nf - 1) (pshV (setH (fr (nf - 1)) a) s)) (up2 cs (nf - 1) a v) cl nf) := by
  by_cases ex : s.2.1 ≠ 0 ∧ ∃ x d k t, Vs fr cs cl nf x d k = some (t, v) ∧ t.2.1 ≠ 0
  · obtain ⟨sr, x0, d0, k0, t0, o1, o2⟩ := ex
    have o3 := hf sr x0 d0 k0 t0 o1 o2
    obtain ⟨rfl, rfl, o4⟩ := o3
    refine h.relay (fun x d k => if x = 0 ∧ d = nf - 1 ∧ k = k0 then (0, nf - 1, a) else (x, d, k)) (0, nf, 0) (fun x d k t c q => ?_)
    rcases Vs_t (cs := cs) (cl := cl) (fun d k hd => ⟨by simp [up2, hd], rfl⟩) q with ⟨q1, q2⟩ | ⟨q1, q2, q3⟩
    · refine ⟨hp _ _ _ _ _ q2 (by simp [q1]) (fun w => q1 w.2.1), fun r => Or.inl ⟨x, d, k, t, q2, r, by simp [q1]⟩⟩
    · subst q1
      rcases q3 with ⟨a1, a2, a3, a4⟩ | ⟨a1, a2, a3⟩
      · subst a1
        by_cases ck : k = a
        · subst ck
          have e1 : t = s := by rw [a3]; simp [pshV, setN, setH]
          have e2 : c = v := by rw [a4]; simp [up2]
          subst e1; subst e2
          exact ⟨hs, fun _ => Or.inl ⟨0, nf - 1, k0, t0, o1, o2, by simp⟩⟩
        · have kl : k < a := by simp only [pshV, setN, setH] at a2; omega
          have e1 : t = (fr (nf - 1)).2.2.1.2 k := by rw [a3]; simp [pshV, setN, setH, kl]
          have e2 : c = cs (nf - 1) k := by rw [a4]; simp [up2, ck]
          have V0 : Vs fr cs cl nf 0 (nf - 1) k = some (t, c) := by rw [Vs_0 q2 (by omega), e1, e2]
          refine ⟨hp _ _ _ _ _ V0 (by simp [ck]) (by omega), fun r => Or.inl ⟨0, nf - 1, k, t, V0, r, ?_⟩⟩
          have : k ≠ k0 := by omega
          simp [this]
      · subst a1
        have V1 : Vs fr cs cl nf 1 (nf - 1) k = some (t, c) := by rw [Vs_1 q2 a2, a3]
        exact ⟨hp _ _ _ _ _ V1 (by simp) (by simp), fun r => Or.inl ⟨1, nf - 1, k, t, V1, r, by simp⟩⟩
  · refine h.relay (fun x d k => (x, d, k)) (0, nf - 1, a) (fun x d k t c q => ?_)
    rcases Vs_t (cs := cs) (cl := cl) (fun d k hd => ⟨by simp [up2, hd], rfl⟩) q with ⟨q1, q2⟩ | ⟨q1, q2, q3⟩
    · refine ⟨hp _ _ _ _ _ q2 (by simp [q1]) (fun w => q1 w.2.1), fun r => Or.inl ⟨x, d, k, t, q2, r, rfl⟩⟩
    · subst q1
      rcases q3 with ⟨a1, a2, a3, a4⟩ | ⟨a1, a2, a3⟩
      · subst a1
        by_cases ck : k = a
        · subst ck
          have e1 : t = s := by rw [a3]; simp [pshV, setN, setH]
          have e2 : c = v := by rw [a4]; simp [up2]
          subst e1; subst e2
          refine ⟨hs, fun r => Or.inr ⟨fun x d k t' w => ?_, rfl⟩⟩
          by_cases z : t'.2.1 = 0
          · exact z
          · exact absurd ⟨r, x, d, k, t', w, z⟩ ex
        · have kl : k < a := by simp only [pshV, setN, setH] at a2; omega
          have e1 : t = (fr (nf - 1)).2.2.1.2 k := by rw [a3]; simp [pshV, setN, setH, kl]
          have e2 : c = cs (nf - 1) k := by rw [a4]; simp [up2, ck]
          have V0 : Vs fr cs cl nf 0 (nf - 1) k = some (t, c) := by rw [Vs_0 q2 (by omega), e1, e2]
          exact ⟨hp _ _ _ _ _ V0 (by simp [ck]) (by omega), fun r => Or.inl ⟨0, nf - 1, k, t, V0, r, rfl⟩⟩
      · subst a1
        have V1 : Vs fr cs cl nf 1 (nf - 1) k = some (t, c) := by rw [Vs_1 q2 a2, a3]
        exact ⟨hp _ _ _ _ _ V1 (by simp) (by simp), fun r => Or.inl ⟨1, nf - 1, k, t, V1, r, rfl⟩⟩
/-- n are taken -/
theorem SRel.drp (h : SRel phi Rn (Vs fr cs cl nf)) {a : Nat} {y : Fm} (hy : y.2 = (setH (fr (nf - 1)) a).2) (ha : a ≤ (fr (nf - 1)).2.2.1.1) (hp : ∀ x d k t c, Vs fr cs cl nf x d k = some (t, c) → ¬ (x = 0 ∧ d = nf - 1 ∧ a ≤ k) → SlR phi' Rn' t c) : SRel phi' Rn' (Vs (setF fr (nf - 1) y) cs cl nf) := by
  refine h.relay (fun x d k => (x, d, k)) (0, nf, 0) (fun x d k t c q => ?_)
  rcases Vs_t (cs := cs) (cl := cl) (fun d k hd => ⟨rfl, rfl⟩) q with ⟨q1, q2⟩ | ⟨q1, q2, q3⟩
  · exact ⟨hp _ _ _ _ _ q2 (fun w => q1 w.2.1), fun r => Or.inl ⟨x, d, k, t, q2, r, rfl⟩⟩
  · subst q1
    rcases q3 with ⟨a1, a2, a3, a4⟩ | ⟨a1, a2, a3⟩
    · subst a1
      rw [hy] at a2 a3
      have kl : k < a := a2
      have V0 : Vs fr cs cl nf 0 (nf - 1) k = some (t, c) := by rw [Vs_0 q2 (by omega), a3, a4]; rfl
      exact ⟨hp _ _ _ _ _ V0 (by omega), fun r => Or.inl ⟨0, nf - 1, k, t, V0, r, rfl⟩⟩
    · subst a1
      rw [hy] at a2
      have V1 : Vs fr cs cl nf 1 (nf - 1) k = some (t, c) := by rw [Vs_1 q2 a2, a3]
      exact ⟨hp _ _ _ _ _ V1 (by simp), fun r => Or.inl ⟨1, nf - 1, k, t, V1, r, rfl⟩⟩
end
