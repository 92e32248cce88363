/-! What looking knew, as a certificate whose origins never have the last bit -/
def R63 (R : Nat → Option Lc) : Prop := ∀ t Q, R t = some Q → ∀ k, Q.1 k = true → ob (Q.2.1 k) 63 = false
theorem come63 {U : Md} {ls : List Ty} {i t : Nat} {C : Lc} {R R' : Nat → Option Lc} (h : R63 R) (hC : ∀ k, C.1 k = true → ob (C.2.1 k) 63 = false) (e : aCome U ls i t C R = .ok R') : R63 R' := by
  have st : ∀ Q : Lc, (∀ k, Q.1 k = true → ob (Q.2.1 k) 63 = false) → R63 (setR R t Q) := fun Q hQ t' Q' q => by
    unfold setR at q
    by_cases c : t' = t
    · rw [if_pos c] at q; cases q; exact hQ
    · rw [if_neg c] at q; exact h t' Q' q
  unfold aCome at e
  cases er : R t with
  | none =>
    rw [er] at e; cases e
    refine st _ (fun k hk => ?_)
    have hk' : C.1 k = true := hk
    show ob (if C.1 k = true then C.2.1 k else 0) 63 = false
    rw [if_pos hk']; exact hC k hk'
  | some Q =>
    rw [er] at e
    have h' : (if t ≤ i then nd_ ((List.range ls.length).all (bkO U ls Q C)) 9 >>= fun _ => .ok R else nd_ ((List.range ls.length).all (mgB U ls Q C)) 9 >>= fun _ => .ok (setR R t (mgO Q C)) : Px _) = .ok R' := e
    by_cases c : t ≤ i
    · rw [if_pos c] at h'
      cases b : (List.range ls.length).all (bkO U ls Q C) with
      | false => rw [b] at h'; cases h'
      | true => rw [b] at h'; cases h'; exact h
    · rw [if_neg c] at h'
      cases b : (List.range ls.length).all (mgB U ls Q C) with
      | false => rw [b] at h'; cases h'
      | true =>
        rw [b] at h'; cases h'
        refine st _ (fun k hk => ?_)
        have hk' : (Q.1 k && C.1 k) = true := hk
        have h2 : Q.1 k = true ∧ C.1 k = true := by simpa using hk'
        show ob (if (Q.1 k && C.1 k) = true then Q.2.1 k ||| C.2.1 k else 0) 63 = false
        rw [if_pos hk', ob_or, h t Q er k h2.1, hC k h2.2]; rfl
section
variable {U : Md} {f : Nat} {tg : Nat → Bool}
theorem aChk_c63 (h40 : (locOf U f).length ≤ 40) (hio : ∀ (j o : Nat) (x y : Int64), (codeOf U f)[j]? = some (o, x, y) → InOk U f o x.toInt.toNat y.toInt.toNat) (ht : ∀ (j o : Nat) (x y : Int64), (codeOf U f)[j]? = some (o, x, y) → 2 ≤ o → o < 5 → x.toInt.toNat < (codeOf U f).length ∧ tg x.toInt.toNat = true) : ∀ (r i : Nat) (S : Nat × (Nat → SS)) (R : Nat → Option Lc) (Cp : Nat → Lks), i + r = (codeOf U f).length → (∀ t, t < i → R t = some (Cp t).2 ∧ (tg t = true → (Cp t).1.1 = 0)) → aChk U f tg r i S R = none → (∀ k, k < S.1 → ob (S.2 k).2.1 63 = false) → R63 R → (∀ t, N63 (Cp t)) → ∃ C : Nat → Lks, (∀ t, t < i → C t = Cp t) ∧ (i < (codeOf U f).length → ∃ Q, R i = some Q ∧ C i = (S, Q)) ∧ (∀ t, i ≤ t → t < (codeOf U f).length → (∀ Q, R t = some Q → leC U (locOf U f) Q (C t).2) ∧ (tg t = true → (C t).1.1 = 0)) ∧ (∀ (j o : Nat) (x y : Int64), i ≤ j → (codeOf U f)[j]? = some (o, x, y) → (CtI U f C j o x.toInt.toNat y.toInt.toNat) ) ∧ ∀ t, N63 (C t) := by
  intro r
  induction r with
  | zero =>
    intro i S R Cp ei hp _ s63 r63 p63
    refine ⟨Cp, fun _ _ => rfl, fun q => by omega, fun t a b => by omega, fun j o x y hj q => ?_, p63⟩
    have := (List.getElem?_eq_some_iff.mp q).1
    omega
  | succ r ih =>
    intro i S R Cp ei hp h s63 r63 p63
    have il : i < (codeOf U f).length := by omega
    obtain ⟨o, x, y, hi⟩ : ∃ o x y, (codeOf U f)[i]? = some (o, x, y) := ⟨_, _, _, List.getElem?_eq_getElem il⟩
    unfold aChk at h
    rw [hi] at h
    have h' : (match aStep U f tg i o x.toInt.toNat y.toInt.toNat S R with | .error w => some (w, i) | .ok p => aChk U f tg r (i + 1) p.1 p.2) = none := h
    cases e : aStep U f tg i o x.toInt.toNat y.toInt.toNat S R with
    | error w => rw [e] at h'; cases h'
    | ok p =>
      rw [e] at h'
      have h2 : aChk U f tg r (i + 1) p.1 p.2 = none := h'
      obtain ⟨Q, L', R1, e1, e2, e3, e4, e5⟩ := aStep_s e
      have sm : ∀ t, t ≤ i → (R t).isSome = true := fun t q => by
        by_cases c : t = i
        · rw [c, e1]; rfl
        · rw [(hp t (by omega)).1]; rfl
      have n63 : N63 (S, Q) := ⟨s63, r63 i Q e1⟩
      have l63 : N63 L' := aOp63 n63 h40 (hio i o x y hi) L' e3
      have r1 : R63 R1 := by
        rcases e4 with ⟨_, _, q⟩ | ⟨_, q⟩
        · exact come63 r63 l63.2 q
        · rw [q]; exact r63
      have r2 : R63 p.2 ∧ ∀ k, k < p.1.1 → ob (p.1.2 k).2.1 63 = false := by
        rcases e5 with ⟨_, q⟩ | ⟨_, _, q1, q⟩
        · rw [q]; exact ⟨r1, fun k hk => absurd (show k < 0 from hk) (by omega)⟩
        · exact ⟨come63 r1 l63.2 q, by rw [q1]; exact l63.1⟩
      -- after the jump
      have j1 : (∀ t', t' ≤ i → R1 t' = R t') ∧ (∀ t' Q, R t' = some Q → ∃ Q', R1 t' = some Q' ∧ leC U (locOf U f) Q Q') ∧ (2 ≤ o → o < 5 → ∃ Q', R1 x.toInt.toNat = some Q' ∧ leC U (locOf U f) L'.2 Q') := by
        rcases e4 with ⟨_, _, q⟩ | ⟨c, q⟩
        · obtain ⟨a1, a2, a3⟩ := aCome_le q (sm _)
          exact ⟨a1, a2, fun _ _ => a3⟩
        · rw [q]; exact ⟨fun _ _ => rfl, fun t' Q q => ⟨Q, q, leC.rfl'⟩, fun a b => absurd ⟨a, b⟩ c⟩
      have j2 : (∀ t', t' ≤ i → p.2 t' = R1 t') ∧ (∀ t' Q, R1 t' = some Q → ∃ Q', p.2 t' = some Q' ∧ leC U (locOf U f) Q Q') ∧ (o ≠ 1 → o ≠ 2 → o ≠ 45 → i + 1 < (codeOf U f).length ∧ p.1 = L'.1 ∧ ∃ Q', p.2 (i + 1) = some Q' ∧ leC U (locOf U f) L'.2 Q') := by
        rcases e5 with ⟨c, q⟩ | ⟨c, c2, c3, q⟩
        · rw [q]; exact ⟨fun _ _ => rfl, fun t' Q q => ⟨Q, q, leC.rfl'⟩, fun a b d => by omega⟩
        · obtain ⟨a1, a2, a3⟩ := aCome_le q (fun q => by omega)
          exact ⟨a1, a2, fun _ _ _ => ⟨c2, c3, a3⟩⟩
      obtain ⟨C, c1, c2, c3, c4, c63⟩ := ih (i + 1) p.1 p.2 (fun t => if t = i then (S, Q) else Cp t) (by omega) (fun t q => by
        have eR : p.2 t = R t := (j2.1 t (by omega)).trans (j1.1 t (by omega))
        by_cases c : t = i
        · subst c
          rw [if_pos rfl, eR]
          refine ⟨e1, fun tt => ?_⟩
          rw [tt] at e2
          have : S.1 = 0 := by simpa using e2
          exact this
        · rw [if_neg c, eR]
          exact hp t (by omega)) h2 r2.2 r2.1 (fun t => by
        by_cases c : t = i
        · rw [if_pos c]; exact n63
        · rw [if_neg c]; exact p63 t)
      have ci : C i = (S, Q) := by rw [c1 i (by omega), if_pos rfl]
      refine ⟨C, fun t q => by rw [c1 t (by omega), if_neg (by omega)], fun _ => ⟨Q, e1, ci⟩, fun t a b => ?_, fun j o' x' y' hj q => ?_, c63⟩
      · by_cases c : t = i
        · subst c
          rw [ci]
          refine ⟨fun Q' q => by rw [e1] at q; cases q; exact leC.rfl', fun tt => ?_⟩
          rw [tt] at e2
          have : S.1 = 0 := by simpa using e2
          exact this
        · obtain ⟨d1, d2⟩ := c3 t (by omega) b
          refine ⟨fun Q' q => ?_, d2⟩
          obtain ⟨Q1, g1, g2⟩ := j1.2.1 t Q' q
          obtain ⟨Q2, g3, g4⟩ := j2.2.1 t Q1 g1
          exact (g2.trans g4).trans (d1 Q2 g3)
      · by_cases c : j = i
        · subst c
          rw [hi] at q
          cases q
          refine ⟨L', by rw [ci]; exact e3, fun a1 a2 a3 => ?_, fun a1 a2 => ?_⟩
          · obtain ⟨l1, l2, Q', l3, l4⟩ := j2.2.2 a1 a2 a3
            obtain ⟨Q2, m1, m2⟩ := c2 l1
            rw [l3] at m1; cases m1
            exact ⟨l1, ⟨by rw [m2, l2], fun k _ => by rw [m2, l2], fun k hk => by rw [m2]; exact l4.1 k hk⟩, fun k hk => by rw [m2]; exact l4.2 k hk⟩
          · obtain ⟨t1, t2⟩ := ht _ _ _ _ hi a1 a2
            have l0 := aOp_jump a1 a2 e3
            obtain ⟨Q1, m1, m2⟩ := j1.2.2 a1 a2
            obtain ⟨Q2, m3, m4⟩ := j2.2.1 _ _ m1
            have key : (C x.toInt.toNat).1.1 = 0 ∧ leC U (locOf U f) L'.2 (C x.toInt.toNat).2 := by
              by_cases d : x.toInt.toNat ≤ j
              · have m5 : R x.toInt.toNat = some Q1 := by rw [← j1.1 _ d]; exact m1
                by_cases d2 : x.toInt.toNat = j
                · rw [d2, ci]
                  rw [d2, e1] at m5; cases m5
                  refine ⟨?_, m2⟩
                  rw [d2] at t2
                  rw [t2] at e2
                  have : S.1 = 0 := by simpa using e2
                  exact this
                · obtain ⟨n1, n2⟩ := hp x.toInt.toNat (by omega)
                  rw [c1 _ (by omega), if_neg d2]
                  rw [n1] at m5; cases m5
                  exact ⟨n2 t2, m2⟩
              · obtain ⟨n1, n2⟩ := c3 x.toInt.toNat (by omega) t1
                exact ⟨n2 t2, (m2.trans m4).trans (n1 Q2 m3)⟩
            exact ⟨t1, ⟨by rw [l0, key.1], fun k hk => by rw [l0] at hk; omega, key.2.1⟩, key.2.2⟩
        · exact c4 j o' x' y' (by omega) q
theorem vrd_c63 (hc : CdO U f) (h1 : 0 < (codeOf U f).length) (h40 : (locOf U f).length ≤ 40) (h8 : (tksOf U f).length ≤ 8) (h : vrd U f = none) : ∃ C, Cert U f C ∧ ∀ i, N63 (C i) := by
  have q63 : ∀ k, (Q0 U f).1 k = true → ob ((Q0 U f).2.1 k) 63 = false := fun k hk => by
    have k8 : k < (tksOf U f).length := of_decide_eq_true hk
    show ob (if (decide (k < (tksOf U f).length) && isR ((locOf U f).getD k [])) = true then bitO (40 + k) else 0) 63 = false
    by_cases c : (decide (k < (tksOf U f).length) && isR ((locOf U f).getD k [])) = true
    · rw [if_pos c]; exact bit63 (40 + k) (by omega)
    · rw [if_neg c]; exact o063
  obtain ⟨C, c1, c2, c3, c4, c5⟩ := aChk_c63 (U := U) (f := f) (tg := tgOf U f) h40 (fun j o x y q => (hc.2 j o x y q).1) (fun j o x y q a b => ⟨(hc.2 j o x y q).2.2.2 a b, tgOf_j q a b⟩) (codeOf U f).length 0 S0 (R0 U f) (fun _ => (S0, Q0 U f)) (by omega) (fun t q => by omega) h (fun k hk => absurd (show k < 0 from hk) (by omega)) (fun t Q q => by
    unfold R0 at q
    by_cases c : t = 0
    · rw [if_pos c] at q; cases q; exact q63
    · rw [if_neg c] at q; cases q) (fun t => ⟨fun k hk => absurd (show k < 0 from hk) (by omega), q63⟩)
  obtain ⟨Q, d1, d2⟩ := c2 h1
  have eQ : Q = Q0 U f := by
    have : R0 U f 0 = some (Q0 U f) := if_pos rfl
    rw [this] at d1; cases d1; rfl
  refine ⟨C, ⟨h1, by rw [d2]; rfl, fun k hk => ?_, fun i o x y q => c4 i o x y (by omega) q⟩, c5⟩
  rw [d2, eQ]
  refine ⟨rfl, fun a b => ⟨?_, rfl⟩⟩
  show (if (decide (k < (tksOf U f).length) && isR ((locOf U f).getD k [])) = true then bitO (40 + k) else 0) = _
  have a' : decide (k < (tksOf U f).length) = true := a
  rw [a', b]; rfl
end
