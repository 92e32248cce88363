/-! What looking knew, as a certificate -/
def leC (U : Md) (ls : List Ty) (C Q : Lc) : Prop := (∀ k, k < ls.length → Q.1 k = true → C.1 k = true ∧ (∀ b, ob (C.2.1 k) b = true → ob (Q.2.1 k) b = true) ∧ (C.2.2 k = true → Q.2.2 k = true)) ∧ ∀ k, k < ls.length → C.1 k = true → Q.1 k = false → hasD U (ls.getD k []) = true
theorem leC.rfl' {U : Md} {ls : List Ty} {C : Lc} : leC U ls C C := ⟨fun _ _ h => ⟨h, fun _ q => q, fun q => q⟩, fun k _ a b => by rw [a] at b; exact absurd b (by simp)⟩
theorem leC.trans {U : Md} {ls : List Ty} {C D Q : Lc} (a : leC U ls C D) (b : leC U ls D Q) : leC U ls C Q := ⟨fun k hk h => by
  obtain ⟨b1, b2, b3⟩ := b.1 k hk h
  obtain ⟨a1, a2, a3⟩ := a.1 k hk b1
  exact ⟨a1, fun j q => b2 j (a2 j q), fun q => b3 (a3 q)⟩, fun k hk h q => by
  cases e : D.1 k with
  | true => exact b.2 k hk e q
  | false => exact a.2 k hk h e⟩
theorem ob_or {x y : Int64} {b : Nat} : ob (x ||| y) b = (ob x b || ob y b) := by
  unfold ob
  rw [Int64.toBitVec_or, BitVec.getLsbD_or]
theorem ob_sub {x y : Int64} (h : x &&& (y ^^^ (-1)) = 0) {b : Nat} (q : ob x b = true) : ob y b = true := by
  have b64 : b < 64 := by
    by_cases c : b < 64
    · exact c
    · rw [ob_64 (by omega)] at q; exact absurd q (by simp)
  have h0 : ob (x &&& (y ^^^ (-1))) b = false := by rw [h]; unfold ob; simp
  have hm : ob (-1) b = true := by
    have : ∀ b, b < 64 → ob (-1) b = true := by decide
    exact this b b64
  have hx : ob (y ^^^ (-1)) b = (ob y b ^^ ob (-1) b) := by unfold ob; rw [Int64.toBitVec_xor, BitVec.getLsbD_xor]
  rw [ob_and, q, hx, hm] at h0
  cases e : ob y b with
  | true => rfl
  | false => rw [e] at h0; exact absurd h0 (by simp)
theorem leC_nrm {U : Md} {ls : List Ty} (C : Lc) : leC U ls C (nrm C) := ⟨fun k hk h => by
  have h1 : C.1 k = true := h
  refine ⟨h1, fun b q => ?_, fun q => ?_⟩
  · show ob (if C.1 k = true then C.2.1 k else 0) b = true
    rw [if_pos h1]; exact q
  · show (C.1 k && C.2.2 k) = true
    rw [h1, q]; rfl, fun k _ a b => by
  have b' : C.1 k = false := b
  rw [a] at b'; exact absurd b' (by simp)⟩
theorem leC_mg {U : Md} {ls : List Ty} (Q C : Lc) (hb : (List.range ls.length).all (mgB U ls Q C) = true) : leC U ls Q (mgO Q C) ∧ leC U ls C (mgO Q C) := by
  have h2 : ∀ k, (mgO Q C).1 k = true → Q.1 k = true ∧ C.1 k = true := fun k h => by
    have : (Q.1 k && C.1 k) = true := h
    simpa using this
  have ho : ∀ k, (mgO Q C).1 k = true → (mgO Q C).2.1 k = Q.2.1 k ||| C.2.1 k := fun k h => by
    show (if (Q.1 k && C.1 k) = true then Q.2.1 k ||| C.2.1 k else 0) = _
    rw [if_pos (show (Q.1 k && C.1 k) = true from h)]
  have hi : ∀ k, (mgO Q C).1 k = true → (mgO Q C).2.2 k = (Q.2.2 k || C.2.2 k) := fun k h => by
    have : (Q.1 k && C.1 k) = true := h
    show (Q.1 k && C.1 k && (Q.2.2 k || C.2.2 k)) = _
    rw [this]; rfl
  have dr : ∀ k, k < ls.length → Q.1 k ≠ C.1 k → hasD U (ls.getD k []) = true := fun k hk ne => by
    have := List.all_eq_true.mp hb k (List.mem_range.mpr hk)
    unfold mgB at this
    rw [Bool.or_eq_true] at this
    rcases this with e | e
    · exact absurd (beq_iff_eq.mp e) ne
    · exact e
  have gn : ∀ k, (mgO Q C).1 k = false → (Q.1 k && C.1 k) = false := fun k h => h
  refine ⟨⟨fun k hk h => ⟨(h2 k h).1, fun b q => by rw [ho k h, ob_or, q]; rfl, fun q => by rw [hi k h, q]; rfl⟩, fun k hk a b => dr k hk (fun e => ?_)⟩, ⟨fun k hk h => ⟨(h2 k h).2, fun b q => by rw [ho k h, ob_or, q, Bool.or_true], fun q => by rw [hi k h, q, Bool.or_true]⟩, fun k hk a b => dr k hk (fun e => ?_)⟩⟩
  · have := gn k b
    rw [← e, a] at this; exact absurd this (by simp)
  · have := gn k b
    rw [e, a] at this; exact absurd this (by simp)
theorem leC_bk {U : Md} {ls : List Ty} {Q C : Lc} (h : (List.range ls.length).all (bkO U ls Q C) = true) : leC U ls C Q := ⟨fun k hk hq => by
  have := List.all_eq_true.mp h k (List.mem_range.mpr hk)
  unfold bkO at this
  rw [if_pos hq] at this
  have t2 : (C.1 k = true ∧ (C.2.1 k &&& (Q.2.1 k ^^^ (-1)) = 0)) ∧ (C.2.2 k = false ∨ Q.2.2 k = true) := by simpa using this
  refine ⟨t2.1.1, fun b q => ob_sub t2.1.2 q, fun q => ?_⟩
  rcases t2.2 with e | e
  · rw [e] at q; exact absurd q (by simp)
  · exact e, fun k hk a b => by
  have := List.all_eq_true.mp h k (List.mem_range.mpr hk)
  unfold bkO at this
  rw [if_neg (by rw [b]; simp), a] at this
  simpa using this⟩
theorem aCome_le {U : Md} {ls : List Ty} {i t : Nat} {C : Lc} {R R' : Nat → Option Lc} (h : aCome U ls i t C R = .ok R') (hb : t ≤ i → (R t).isSome = true) : (∀ t', t' ≤ i → R' t' = R t') ∧ (∀ t' Q, R t' = some Q → ∃ Q', R' t' = some Q' ∧ leC U ls Q Q') ∧ ∃ Q', R' t = some Q' ∧ leC U ls C Q' := by
  unfold aCome at h
  cases e : R t with
  | none =>
    have ti : i < t := by
      by_cases c : t ≤ i
      · have := hb c; rw [e] at this; exact absurd this (by simp)
      · omega
    rw [e] at h; cases h
    unfold setR
    exact ⟨fun t' q => if_neg (by omega), fun t' Q q => ⟨Q, by rw [if_neg (fun c => by rw [c, e] at q; cases q)]; exact q, leC.rfl'⟩, nrm C, if_pos rfl, leC_nrm C⟩
  | some Q =>
    rw [e] at h
    have h' : (if t ≤ i then nd_ ((List.range ls.length).all (bkO U ls Q C)) 9 >>= fun _ => .ok R else nd_ ((List.range ls.length).all (mgB U ls Q C)) 9 >>= fun _ => .ok (setR R t (mgO Q C)) : Px _) = .ok R' := h
    by_cases c : t ≤ i
    · rw [if_pos c] at h'
      cases b : (List.range ls.length).all (bkO U ls Q C) with
      | false => rw [b] at h'; cases h'
      | true => rw [b] at h'; cases h'; exact ⟨fun _ _ => rfl, fun t' Q q => ⟨Q, q, leC.rfl'⟩, Q, e, leC_bk b⟩
    · rw [if_neg c] at h'
      cases b : (List.range ls.length).all (mgB U ls Q C) with
      | false => rw [b] at h'; cases h'
      | true =>
        rw [b] at h'; cases h'
        unfold setR
        refine ⟨fun t' q => if_neg (by omega), fun t' Q' q => ?_, mgO Q C, if_pos rfl, (leC_mg Q C b).2⟩
        by_cases d : t' = t
        · subst d
          rw [e] at q; cases q
          exact ⟨mgO Q C, if_pos rfl, (leC_mg Q C b).1⟩
        · exact ⟨Q', by rw [if_neg d]; exact q, leC.rfl'⟩
/-- a jump leaves nothing on the stack -/
theorem aOp_jump {U : Md} {f o a b : Nat} {L L' : Lks} (h2 : 2 ≤ o) (h5 : o < 5) (h : aOp U f o a b L = .ok L') : L'.1.1 = 0 := by
  unfold aOp at h
  have h' : ((if 2 < o then lTakeT [1] L else .ok L) >>= fun L => nd_ (L.1.1 == 0) 8 >>= fun _ => .ok L : Px Lks) = .ok L' := by
    have e : (if o = 0 then lTake L >>= fun q => nd_ (hasD U q.1.1) 4 >>= fun _ => .ok q.2 else if o = 1 then aBack U f (locOf U f) L else if o < 5 then (if 2 < o then lTakeT [1] L else .ok L) >>= fun L => nd_ (L.1.1 == 0) 8 >>= fun _ => .ok L else _ : Px Lks) = .ok L' := h
    rw [if_neg (by omega), if_neg (by omega), if_pos h5] at e
    exact e
  cases r : (if 2 < o then lTakeT [1] L else .ok L : Px Lks) with
  | error w => rw [r] at h'; cases h'
  | ok M =>
    rw [r, ok_b] at h'
    cases c : (M.1.1 == 0) with
    | false => rw [c] at h'; cases h'
    | true => rw [c] at h'; cases h'; exact beq_iff_eq.mp c
section
variable {U : Md} {f : Nat} {tg : Nat → Bool}
/-- what holds of one instruction -/
def CtI (U : Md) (f : Nat) (C : Nat → Lks) (i o a b : Nat) : Prop := ∃ L', aOp U f o a b (C i) = .ok L' ∧ (o ≠ 1 → o ≠ 2 → o ≠ 45 → i + 1 < (codeOf U f).length ∧ leD U (locOf U f) L' (C (i + 1))) ∧ (2 ≤ o → o < 5 → a < (codeOf U f).length ∧ leD U (locOf U f) L' (C a))
theorem aChk_cert (ht : ∀ (j o : Nat) (x y : Int64), (codeOf U f)[j]? = some (o, x, y) → 2 ≤ o → o < 5 → x.toInt.toNat < (codeOf U f).length ∧ tg x.toInt.toNat = true) : ∀ (r i : Nat) (S : Nat × (Nat → SS)) (R : Nat → Option Lc) (Cp : Nat → Lks), i + r = (codeOf U f).length → (∀ t, t < i → R t = some (Cp t).2 ∧ (tg t = true → (Cp t).1.1 = 0)) → aChk U f tg r i S R = none → ∃ C : Nat → Lks, (∀ t, t < i → C t = Cp t) ∧ (i < (codeOf U f).length → ∃ Q, R i = some Q ∧ C i = (S, Q)) ∧ (∀ t, i ≤ t → t < (codeOf U f).length → (∀ Q, R t = some Q → leC U (locOf U f) Q (C t).2) ∧ (tg t = true → (C t).1.1 = 0)) ∧ ∀ (j o : Nat) (x y : Int64), i ≤ j → (codeOf U f)[j]? = some (o, x, y) → CtI U f C j o x.toInt.toNat y.toInt.toNat := by
  intro r
  induction r with
  | zero =>
    intro i S R Cp ei hp _
    refine ⟨Cp, fun _ _ => rfl, fun q => by omega, fun t a b => by omega, fun j o x y hj q => ?_⟩
    have := (List.getElem?_eq_some_iff.mp q).1
    omega
  | succ r ih =>
    intro i S R Cp ei hp h
    have il : i < (codeOf U f).length := by omega
    obtain ⟨o, x, y, hi⟩ : ∃ o x y, (codeOf U f)[i]? = some (o, x, y) := ⟨_, _, _, List.getElem?_eq_getElem il⟩
    unfold aChk at h
    rw [hi] at h
    have h' : (match aStep U f tg i o x.toInt.toNat y.toInt.toNat S R with | .error w => some (w, i) | .ok p => aChk U f tg r (i + 1) p.1 p.2) = none := h
    cases e : aStep U f tg i o x.toInt.toNat y.toInt.toNat S R with
    | error w => rw [e] at h'; cases h'
    | ok p =>
      rw [e] at h'
      have h2 : aChk U f tg r (i + 1) p.1 p.2 = none := h'
      obtain ⟨Q, L', R1, e1, e2, e3, e4, e5⟩ := aStep_s e
      have sm : ∀ t, t ≤ i → (R t).isSome = true := fun t q => by
        by_cases c : t = i
        · rw [c, e1]; rfl
        · rw [(hp t (by omega)).1]; rfl
      -- after the jump
      have j1 : (∀ t', t' ≤ i → R1 t' = R t') ∧ (∀ t' Q, R t' = some Q → ∃ Q', R1 t' = some Q' ∧ leC U (locOf U f) Q Q') ∧ (2 ≤ o → o < 5 → ∃ Q', R1 x.toInt.toNat = some Q' ∧ leC U (locOf U f) L'.2 Q') := by
        rcases e4 with ⟨_, _, q⟩ | ⟨c, q⟩
        · obtain ⟨a1, a2, a3⟩ := aCome_le q (sm _)
          exact ⟨a1, a2, fun _ _ => a3⟩
        · rw [q]; exact ⟨fun _ _ => rfl, fun t' Q q => ⟨Q, q, leC.rfl'⟩, fun a b => absurd ⟨a, b⟩ c⟩
      have j2 : (∀ t', t' ≤ i → p.2 t' = R1 t') ∧ (∀ t' Q, R1 t' = some Q → ∃ Q', p.2 t' = some Q' ∧ leC U (locOf U f) Q Q') ∧ (o ≠ 1 → o ≠ 2 → o ≠ 45 → i + 1 < (codeOf U f).length ∧ p.1 = L'.1 ∧ ∃ Q', p.2 (i + 1) = some Q' ∧ leC U (locOf U f) L'.2 Q') := by
        rcases e5 with ⟨c, q⟩ | ⟨c, c2, c3, q⟩
        · rw [q]; exact ⟨fun _ _ => rfl, fun t' Q q => ⟨Q, q, leC.rfl'⟩, fun a b d => by omega⟩
        · obtain ⟨a1, a2, a3⟩ := aCome_le q (fun q => by omega)
          exact ⟨a1, a2, fun _ _ _ => ⟨c2, c3, a3⟩⟩
      obtain ⟨C, c1, c2, c3, c4⟩ := ih (i + 1) p.1 p.2 (fun t => if t = i then (S, Q) else Cp t) (by omega) (fun t q => by
        have eR : p.2 t = R t := (j2.1 t (by omega)).trans (j1.1 t (by omega))
        by_cases c : t = i
        · subst c
          rw [if_pos rfl, eR]
          refine ⟨e1, fun tt => ?_⟩
          rw [tt] at e2
          have : S.1 = 0 := by simpa using e2
          exact this
        · rw [if_neg c, eR]
          exact hp t (by omega)) h2
      have ci : C i = (S, Q) := by rw [c1 i (by omega), if_pos rfl]
      refine ⟨C, fun t q => by rw [c1 t (by omega), if_neg (by omega)], fun _ => ⟨Q, e1, ci⟩, fun t a b => ?_, fun j o' x' y' hj q => ?_⟩
      · by_cases c : t = i
        · subst c
          rw [ci]
          refine ⟨fun Q' q => by rw [e1] at q; cases q; exact leC.rfl', fun tt => ?_⟩
          rw [tt] at e2
          have : S.1 = 0 := by simpa using e2
          exact this
        · obtain ⟨d1, d2⟩ := c3 t (by omega) b
          refine ⟨fun Q' q => ?_, d2⟩
          obtain ⟨Q1, g1, g2⟩ := j1.2.1 t Q' q
          obtain ⟨Q2, g3, g4⟩ := j2.2.1 t Q1 g1
          exact (g2.trans g4).trans (d1 Q2 g3)
      · by_cases c : j = i
        · subst c
          rw [hi] at q
          cases q
          refine ⟨L', by rw [ci]; exact e3, fun a1 a2 a3 => ?_, fun a1 a2 => ?_⟩
          · obtain ⟨l1, l2, Q', l3, l4⟩ := j2.2.2 a1 a2 a3
            obtain ⟨Q2, m1, m2⟩ := c2 l1
            rw [l3] at m1; cases m1
            exact ⟨l1, ⟨by rw [m2, l2], fun k _ => by rw [m2, l2], fun k hk => by rw [m2]; exact l4.1 k hk⟩, fun k hk => by rw [m2]; exact l4.2 k hk⟩
          · obtain ⟨t1, t2⟩ := ht _ _ _ _ hi a1 a2
            have l0 := aOp_jump a1 a2 e3
            obtain ⟨Q1, m1, m2⟩ := j1.2.2 a1 a2
            obtain ⟨Q2, m3, m4⟩ := j2.2.1 _ _ m1
            have key : (C x.toInt.toNat).1.1 = 0 ∧ leC U (locOf U f) L'.2 (C x.toInt.toNat).2 := by
              by_cases d : x.toInt.toNat ≤ j
              · have m5 : R x.toInt.toNat = some Q1 := by rw [← j1.1 _ d]; exact m1
                by_cases d2 : x.toInt.toNat = j
                · rw [d2, ci]
                  rw [d2, e1] at m5; cases m5
                  refine ⟨?_, m2⟩
                  rw [d2] at t2
                  rw [t2] at e2
                  have : S.1 = 0 := by simpa using e2
                  exact this
                · obtain ⟨n1, n2⟩ := hp x.toInt.toNat (by omega)
                  rw [c1 _ (by omega), if_neg d2]
                  rw [n1] at m5; cases m5
                  exact ⟨n2 t2, m2⟩
              · obtain ⟨n1, n2⟩ := c3 x.toInt.toNat (by omega) t1
                exact ⟨n2 t2, (m2.trans m4).trans (n1 Q2 m3)⟩
            exact ⟨t1, ⟨by rw [l0, key.1], fun k hk => by rw [l0] at hk; omega, key.2.1⟩, key.2.2⟩
        · exact c4 j o' x' y' (by omega) q
end
