/-! THE REFERENCE'S LOOKER: a function, instruction by instruction -/
def aChk (U : Md) (f : Nat) (tg : Nat → Bool) : Nat → Nat → Nat × (Nat → SS) → (Nat → Option Lc) → Option (Nat × Nat)
  | 0, _, _, _ => none
  | r + 1, i, S, R => match (codeOf U f)[i]? with
    | none => none
    | some q => match aStep U f tg i q.1 q.2.1.toInt.toNat q.2.2.toInt.toNat S R with
      | .error w => some (w, i)
      | .ok p => aChk U f tg r (i + 1) p.1 p.2
def ChR (sh : Nat → Nat × Nat) (n : Nat) (z : St) (ku f : Nat) (ls : List Ty) (ns : Nat) (v : Int32) : Option (Nat × Nat) → Prop
  | none => v = 0
  | some q => v = nI q.1 ∧ 0 < q.1 ∧ q.1 < 16 ∧ z.1 355 5 = nI q.2
theorem aCome_s {U : Md} {ls : List Ty} {i t : Nat} {C : Lc} {R R' : Nat → Option Lc} (h : aCome U ls i t C R = .ok R') : (R' t).isSome = true ∧ ∀ t', (R t').isSome = true → (R' t').isSome = true := by
  have st : ∀ Q, (setR R t Q t).isSome = true ∧ ∀ t', (R t').isSome = true → (setR R t Q t').isSome = true := fun Q => ⟨by unfold setR; rw [if_pos rfl]; rfl, fun t' q => by
    unfold setR
    by_cases c : t' = t
    · rw [if_pos c]; rfl
    · rw [if_neg c]; exact q⟩
  unfold aCome at h
  cases e : R t with
  | none => rw [e] at h; cases h; exact st _
  | some Q =>
    rw [e] at h
    have h' : (if t ≤ i then nd_ ((List.range ls.length).all (bkO U ls Q C)) 9 >>= fun _ => .ok R else nd_ ((List.range ls.length).all (mgB U ls Q C)) 9 >>= fun _ => .ok (setR R t (mgO Q C)) : Px _) = .ok R' := h
    by_cases c : t ≤ i
    · rw [if_pos c] at h'
      cases b : (List.range ls.length).all (bkO U ls Q C) with
      | false => rw [b] at h'; cases h'
      | true => rw [b] at h'; cases h'; exact ⟨by rw [e]; rfl, fun _ q => q⟩
    · rw [if_neg c] at h'
      cases b : (List.range ls.length).all (mgB U ls Q C) with
      | false => rw [b] at h'; cases h'
      | true => rw [b] at h'; cases h'; exact st _
theorem aStep_s {U : Md} {f : Nat} {tg : Nat → Bool} {i o a b : Nat} {S : Nat × (Nat → SS)} {R : Nat → Option Lc} {p : (Nat × (Nat → SS)) × (Nat → Option Lc)} (h : aStep U f tg i o a b S R = .ok p) : ∃ Q L R1, R i = some Q ∧ (!tg i || S.1 == 0) = true ∧ aOp U f o a b (S, Q) = .ok L ∧ ((2 ≤ o ∧ o < 5 ∧ aCome U (locOf U f) i a L.2 R = .ok R1) ∨ (¬ (2 ≤ o ∧ o < 5) ∧ R1 = R)) ∧ (((o = 1 ∨ o = 2 ∨ o = 45) ∧ p = ((0, L.1.2), R1)) ∨ (¬ (o = 1 ∨ o = 2 ∨ o = 45) ∧ i + 1 < (codeOf U f).length ∧ p.1 = L.1 ∧ aCome U (locOf U f) i (i + 1) L.2 R1 = .ok p.2)) := by
  unfold aStep at h
  cases e : R i with
  | none => rw [e] at h; cases h
  | some Q =>
    rw [e] at h
    have h' : (nd_ (!tg i || S.1 == 0) 8 >>= fun _ => aOp U f o a b (S, Q) >>= fun L => (if 2 ≤ o ∧ o < 5 then aCome U (locOf U f) i a L.2 R else .ok R) >>= fun R => if o = 1 ∨ o = 2 ∨ o = 45 then .ok ((0, L.1.2), R) else nd_ (decide (i + 1 < (codeOf U f).length)) 11 >>= fun _ => aCome U (locOf U f) i (i + 1) L.2 R >>= fun R => .ok (L.1, R) : Px _) = .ok p := h
    cases b1 : (!tg i || S.1 == 0) with
    | false => rw [b1] at h'; cases h'
    | true =>
      rw [b1, nd_t, ok_b] at h'
      cases e2 : aOp U f o a b (S, Q) with
      | error w => rw [e2] at h'; cases h'
      | ok L =>
        rw [e2, ok_b] at h'
        have tl : ∀ R1, (if o = 1 ∨ o = 2 ∨ o = 45 then .ok ((0, L.1.2), R1) else nd_ (decide (i + 1 < (codeOf U f).length)) 11 >>= fun _ => aCome U (locOf U f) i (i + 1) L.2 R1 >>= fun R => .ok (L.1, R) : Px _) = .ok p → (((o = 1 ∨ o = 2 ∨ o = 45) ∧ p = ((0, L.1.2), R1)) ∨ (¬ (o = 1 ∨ o = 2 ∨ o = 45) ∧ i + 1 < (codeOf U f).length ∧ p.1 = L.1 ∧ aCome U (locOf U f) i (i + 1) L.2 R1 = .ok p.2)) := fun R1 q => by
          by_cases c : o = 1 ∨ o = 2 ∨ o = 45
          · rw [if_pos c] at q; cases q; exact Or.inl ⟨c, rfl⟩
          · rw [if_neg c] at q
            by_cases d : i + 1 < (codeOf U f).length
            · rw [decide_eq_true d, nd_t, ok_b] at q
              cases e3 : aCome U (locOf U f) i (i + 1) L.2 R1 with
              | error w => rw [e3] at q; cases q
              | ok R2 => rw [e3] at q; cases q; exact Or.inr ⟨c, d, rfl, rfl⟩
            · rw [decide_eq_false d] at q; cases q
        by_cases c : 2 ≤ o ∧ o < 5
        · rw [if_pos c] at h'
          cases e4 : aCome U (locOf U f) i a L.2 R with
          | error w => rw [e4] at h'; cases h'
          | ok R1 =>
            rw [e4, ok_b] at h'
            exact ⟨Q, L, R1, rfl, rfl, e2, Or.inl ⟨c.1, c.2, e4⟩, tl R1 h'⟩
        · rw [if_neg c, ok_b] at h'
          exact ⟨Q, L, R, rfl, rfl, e2, Or.inr ⟨c, rfl⟩, tl R h'⟩
section
variable {F n : Nat} {sh : Nat → Nat × Nat} {z z' : St} {ku f w ns : Nat} {ls : List Ty} {L M : Lks} {U : Md} {R : Nat → Option Lc} {S : Nat × (Nat → SS)}
theorem check_l (hF : 1100 ≤ F) (hu : ∀ z', FrL2 z z' → UnL F sh n z' ku U ∧ UnI F sh n z' ku U f) (hm : MdO U) (hf : f < faOf U) (hl : ∀ k, k < (locOf U f).length → LsO U.1.2.2 ((locOf U f).getD k [])) (hc : CdO U f) (h4 : z.1 355 4 = nI (codeOf U f).length) {tg : Nat → Bool} (h7 : ∀ t, t < 1025 → z.1 358 t = bI (tg t)) : ∀ r i g z1 S C R, i + r = (codeOf U f).length → r < g → RK sh n z1 ku f (locOf U f) U.1.2.2 0 (S, C) → RcS z1 (locOf U f).length R → FrL2 z z1 → (∀ t, t < i → (R t).isSome = true) → ∃ z' v, fn_X13_check_L16 F sh n 355 g z1 (nI i) = some (z', v) ∧ ChR sh n z' ku f (locOf U f) U.1.2.2 v (aChk U f tg r i S R) ∧ FrL2 z1 z' := by
  have len := hc.1
  intro r
  induction r with
  | zero =>
    intro i g z1 S C R ei hg k P fz hb
    obtain ⟨g, rfl⟩ : ∃ q, g = q + 1 := ⟨g - 1, by omega⟩
    conv => enter [1, z', 1, v, 1, 1]; unfold fn_X13_check_L16
    rw [fz.2.2, h4, if_pos ((nI_leI (by omega) (by omega)).mpr (by omega))]
    exact ⟨z1, _, rfl, k.e0, FrL2.rfl'⟩
  | succ r ih =>
    intro i g z1 S C R ei hg k P fz hb
    obtain ⟨g, rfl⟩ : ∃ q, g = q + 1 := ⟨g - 1, by omega⟩
    have il : i < (codeOf U f).length := by omega
    obtain ⟨o, x, y, hi⟩ : ∃ o x y, (codeOf U f)[i]? = some (o, x, y) := ⟨_, _, _, List.getElem?_eq_getElem il⟩
    obtain ⟨z2, s1, s2, s3⟩ := k.look (F := F) (by omega) P (fun z' q => hu z' (fz.trans q)) hm hf hl hc (fz.2.2.trans h4) (tg := tg) (fun t ht => by rw [(fz.2.1 358 (by omega)).1]; exact h7 t ht) hi hb
    conv => enter [1, z', 1, v, 1, 1]; unfold fn_X13_check_L16
    unfold aChk
    rw [fz.2.2, h4, if_neg (fun q => by have := (nI_leI (by omega) (by omega)).mp q; omega), if_pos k.e0, s1, cal_s, hi]
    show ∃ z' v, _ ∧ ChR sh n z' ku f (locOf U f) U.1.2.2 v (match aStep U f tg i o x.toInt.toNat y.toInt.toNat S R with | .error w => some (w, i) | .ok p => aChk U f tg r (i + 1) p.1 p.2) ∧ _
    unfold fn_X13_check_B48
    cases e : aStep U f tg i o x.toInt.toNat y.toInt.toNat S R with
    | error w =>
      rw [e] at s2
      obtain ⟨w0, M, k2⟩ := s2
      have k3 : RK sh n (si z2 355 5 (nI i)) ku f (locOf U f) U.1.2.2 w M := by
        obtain ⟨a1, ⟨a2, a3, a4, a5, a6⟩, ⟨b1, b2, b3, b4⟩, c1, d1, d2⟩ := k2
        exact ⟨a1.of rfl, ⟨a2, by rw [si_oj (by omega)]; exact a3, by rw [si_oj (by omega)]; exact a4, a5, a6⟩, ⟨by rw [si_oj (by omega)]; exact b1, b2, b3, fun k hk => by rw [si_ok (by omega)]; exact b4 k hk⟩, fun k hk => by rw [si_ok (by omega), si_ok (by omega)]; exact c1 k hk, by rw [si_oj (by omega)]; exact d1, d2⟩
      have f3 : FrL2 z2 (si z2 355 5 (nI i)) := ⟨rfl, fun k hk => ⟨by funext l; rw [si_ok (by omega)], rfl⟩, by rw [si_oj (by omega)]⟩
      have w16 := k3.2.2.2.2.2
      obtain ⟨g', rfl⟩ : ∃ q, g = q + 1 := ⟨g - 1, by omega⟩
      rw [if_neg (k2.ee w0), lt_t]
      refine ⟨si z2 355 5 (nI i), nI w, ?_, ⟨rfl, w0, w16, si_ss⟩, s3.trans f3⟩
      show fn_X13_check_L16 F sh n 355 (g' + 1) (si z2 355 5 (nI i)) (nI i + 1) = _
      conv => lhs; unfold fn_X13_check_L16
      rw [if_neg (k3.ee w0), k3.2.2.2.2.1]
      by_cases c : (si z2 355 5 (nI i)).1 355 4 ≤ nI i + 1
      · rw [if_pos c]
      · rw [if_neg c]
    | ok p =>
      rw [e] at s2
      obtain ⟨⟨C2, k2⟩, P2⟩ := s2
      have hb2 : ∀ t, t < i + 1 → (p.2 t).isSome = true := fun t ht => by
        obtain ⟨Q, L', R1, e1, _, _, e4, e5⟩ := aStep_s e
        have m0 : (R t).isSome = true := by
          by_cases c : t = i
          · rw [c, e1]; rfl
          · exact hb t (by omega)
        have m1 : (R1 t).isSome = true := by
          rcases e4 with ⟨_, _, q⟩ | ⟨_, q⟩
          · exact (aCome_s q).2 t m0
          · rw [q]; exact m0
        rcases e5 with ⟨_, q⟩ | ⟨_, _, _, q⟩
        · rw [q]; exact m1
        · exact (aCome_s q).2 t m1
      obtain ⟨z3, v, t1, t2, t3⟩ := ih (i + 1) g z2 p.1 C2 p.2 (by omega) (by omega) k2 P2 (fz.trans s3) hb2
      rw [if_pos k2.e0, nI_1]
      exact ⟨z3, v, t1, t2, s3.trans t3⟩
end
