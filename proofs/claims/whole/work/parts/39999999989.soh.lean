/-! THE REFERENCE'S LOOKER: coming to an instruction -/
abbrev Lc : Type := (Nat → Bool) × (Nat → Int64) × (Nat → Bool)
def nrm (C : Lc) : Lc := (C.1, fun k => if C.1 k then C.2.1 k else 0, fun k => C.1 k && C.2.2 k)
def bkO (U : Md) (ls : List Ty) (Q C : Lc) (k : Nat) : Bool := if Q.1 k then C.1 k && (C.2.1 k &&& (Q.2.1 k ^^^ (-1)) == 0) && (!C.2.2 k || Q.2.2 k) else !C.1 k || hasD U (ls.getD k [])
def mgB (U : Md) (ls : List Ty) (Q C : Lc) (k : Nat) : Bool := Q.1 k == C.1 k || hasD U (ls.getD k [])
def mgO (Q C : Lc) : Lc := (fun k => Q.1 k && C.1 k, fun k => if Q.1 k && C.1 k then Q.2.1 k ||| C.2.1 k else 0, fun k => Q.1 k && C.1 k && (Q.2.2 k || C.2.2 k))
def setR (R : Nat → Option Lc) (t : Nat) (Q : Lc) : Nat → Option Lc := fun t' => if t' = t then some Q else R t'
/-- from instruction i to t -/
def aCome (U : Md) (ls : List Ty) (i t : Nat) (C : Lc) (R : Nat → Option Lc) : Px (Nat → Option Lc) :=
  match R t with
  | none => .ok (setR R t (nrm C))
  | some Q => if t ≤ i then nd_ ((List.range ls.length).all (bkO U ls Q C)) 9 >>= fun _ => .ok R else nd_ ((List.range ls.length).all (mgB U ls Q C)) 9 >>= fun _ => .ok (setR R t (mgO Q C))
def rcA (z : St) (j : Nat) (b : Bool) (o : Int64) (i : Bool) : Prop := z.1 359 j = bI b ∧ z.2.1 360 j = o ∧ z.1 361 j = bI i
def RcS (z : St) (nl : Nat) (R : Nat → Option Lc) : Prop := ∀ t, t < 1025 → z.1 357 t = bI (R t).isSome ∧ ∀ Q, R t = some Q → ∀ k, k < nl → rcA z (40 * t + k) (Q.1 k) (Q.2.1 k) (Q.2.2 k)
/-- while local p is being recorded -/
def RcP (z : St) (nl : Nat) (R : Nat → Option Lc) (t : Nat) (Qn : Lc) (Qo : Option Lc) (p : Nat) : Prop := (∀ t', t' < 1025 → t' ≠ t → z.1 357 t' = bI (R t').isSome ∧ ∀ Q, R t' = some Q → ∀ k, k < nl → rcA z (40 * t' + k) (Q.1 k) (Q.2.1 k) (Q.2.2 k)) ∧ z.1 357 t = 1 ∧ (∀ k, k < p → rcA z (40 * t + k) (Qn.1 k) (Qn.2.1 k) (Qn.2.2 k)) ∧ ∀ Q, Qo = some Q → ∀ k, p ≤ k → k < nl → rcA z (40 * t + k) (Q.1 k) (Q.2.1 k) (Q.2.2 k)
theorem RcP.done {z : St} {nl : Nat} {R : Nat → Option Lc} {t : Nat} {Qn : Lc} {Qo : Option Lc} {p : Nat} (h : RcP z nl R t Qn Qo p) (hp : nl ≤ p) : RcS z nl (setR R t Qn) := by
  intro t' ht'
  unfold setR
  by_cases c : t' = t
  · subst c
    rw [if_pos rfl]
    exact ⟨h.2.1, fun Q e k hk => by cases e; exact h.2.2.1 k (by omega)⟩
  · rw [if_neg c]; exact h.1 t' ht' c
def FrL2 (z z' : St) : Prop := z'.2.2 = z.2.2 ∧ (∀ k, k < 355 ∨ 367 < k ∨ k = 358 → z'.1 k = z.1 k ∧ z'.2.1 k = z.2.1 k) ∧ z'.1 355 4 = z.1 355 4
theorem FrL2.rfl' {z : St} : FrL2 z z := ⟨rfl, fun _ _ => ⟨rfl, rfl⟩, rfl⟩
theorem FrL2.trans {z z' z'' : St} (f : FrL2 z z') (g : FrL2 z' z'') : FrL2 z z'' := ⟨g.1.trans f.1, fun k h => ⟨(g.2.1 k h).1.trans (f.2.1 k h).1, (g.2.1 k h).2.trans (f.2.1 k h).2⟩, g.2.2.trans f.2.2⟩
theorem FrLk.l2 {z z' : St} (f : FrLk z z') : FrL2 z z' := ⟨f.1, fun k h => f.2.1 k (by omega) (by omega), f.2.2.1 4 (by omega) (by omega) (by omega)⟩
def st3 (z : St) (j : Nat) (b : Bool) (o : Int64) (i : Bool) : St := si (sl (si z 359 j (bI b)) 360 j o) 361 j (bI i)
theorem st3_l2 (z : St) (j : Nat) (b : Bool) (o : Int64) (i : Bool) : FrL2 z (st3 z j b o i) := ⟨rfl, fun k h => ⟨by funext l; unfold st3; rw [si_ok (by omega), sl_1, si_ok (by omega)], by funext l; unfold st3; rw [si_2, sl_ok (by omega), si_2]⟩, by unfold st3; rw [si_ok (by omega), sl_1, si_ok (by omega)]⟩
theorem st3_A (z : St) (j : Nat) (b : Bool) (o : Int64) (i : Bool) : rcA (st3 z j b o i) j b o i := ⟨by unfold st3; rw [si_ok (by omega), sl_1, si_ss], by unfold st3; rw [si_2, sl_ss], by unfold st3; rw [si_ss]⟩
theorem st3_O (z : St) {j j' : Nat} (e : j' ≠ j) (b : Bool) (o : Int64) (i : Bool) {b' : Bool} {o' : Int64} {i' : Bool} (h : rcA z j' b' o' i') : rcA (st3 z j b o i) j' b' o' i' := ⟨by unfold st3; rw [si_ok (by omega), sl_1, si_oj e]; exact h.1, by unfold st3; rw [si_2, sl_oj e, si_2]; exact h.2.1, by unfold st3; rw [si_oj e, sl_1, si_ok (by omega)]; exact h.2.2⟩
theorem RcP.put {z : St} {nl : Nat} {R : Nat → Option Lc} {t : Nat} {Qn : Lc} {Qo : Option Lc} {p : Nat} (h : RcP z nl R t Qn Qo p) (hp : p < nl) (hn : nl ≤ 40) : RcP (st3 z (40 * t + p) (Qn.1 p) (Qn.2.1 p) (Qn.2.2 p)) nl R t Qn Qo (p + 1) := by
  obtain ⟨h1, h2, h3, h4⟩ := h
  have e7 : ∀ t', (st3 z (40 * t + p) (Qn.1 p) (Qn.2.1 p) (Qn.2.2 p)).1 357 t' = z.1 357 t' := fun t' => by unfold st3; rw [si_ok (by omega), sl_1, si_ok (by omega)]
  refine ⟨fun t' ht' ne => ⟨by rw [e7]; exact (h1 t' ht' ne).1, fun Q e k hk => st3_O z (by omega) _ _ _ ((h1 t' ht' ne).2 Q e k hk)⟩, by rw [e7]; exact h2, fun k hk => ?_, fun Q e k k1 k2 => st3_O z (by omega) _ _ _ (h4 Q e k (by omega) k2)⟩
  by_cases c : k = p
  · subst c; exact st3_A z _ _ _ _
  · exact st3_O z (by omega) _ _ _ (h3 k (by omega))
theorem RcP.f5 {z z' : St} {nl : Nat} {R : Nat → Option Lc} {t : Nat} {Qn : Lc} {Qo : Option Lc} {p : Nat} (h : RcP z nl R t Qn Qo p) (f : Fr5 z z') : RcP z' nl R t Qn Qo p := by
  obtain ⟨h1, h2, h3, h4⟩ := h
  have r : ∀ {j b o i}, rcA z j b o i → rcA z' j b o i := fun {j b o i} q => ⟨by rw [(f 359 (by omega)).1]; exact q.1, by rw [(f 360 (by omega)).2]; exact q.2.1, by rw [(f 361 (by omega)).1]; exact q.2.2⟩
  exact ⟨fun t' ht' ne => ⟨by rw [(f 357 (by omega)).1]; exact (h1 t' ht' ne).1, fun Q e k hk => r ((h1 t' ht' ne).2 Q e k hk)⟩, by rw [(f 357 (by omega)).1]; exact h2, fun k hk => r (h3 k hk), fun Q e k k1 k2 => r (h4 Q e k k1 k2)⟩
section
variable {F n : Nat} {sh : Nat → Nat × Nat} {z z' : St} {ku f w ns : Nat} {ls : List Ty} {L M : Lks} {U : Md}
theorem RK.of3 (h : RK sh n z ku f ls ns w L) (e : z'.2.2 = z.2.2) (a : ∀ k, (k = 355 ∨ k = 356 ∨ (362 ≤ k ∧ k ≤ 367)) → z'.1 k = z.1 k ∧ z'.2.1 k = z.2.1 k) : RK sh n z' ku f ls ns w L := by
  obtain ⟨a1, ⟨a2, a3, a4, a5, a6⟩, ⟨b1, b2, b3, b4⟩, c1, d1, d2⟩ := h
  have e5 := (a 355 (by omega)).1
  refine ⟨a1.of e, ⟨by rw [e]; exact a2, by rw [e5]; exact a3, by rw [e5]; exact a4, a5, fun k hk => by rw [(a 356 (by omega)).2]; exact a6 k hk⟩, ⟨by rw [e5]; exact b1, b2, b3, fun k hk => by rw [(a 362 (by omega)).2, (a 363 (by omega)).2, (a 364 (by omega)).1]; exact b4 k hk⟩, fun k hk => by rw [(a 365 (by omega)).1, (a 366 (by omega)).2, (a 367 (by omega)).1]; exact c1 k hk, by rw [e5]; exact d1, d2⟩
theorem RK.put3 (h : RK sh n z ku f ls ns w L) (j : Nat) (b : Bool) (o : Int64) (i : Bool) : RK sh n (st3 z j b o i) ku f ls ns w L :=
  h.of3 rfl (fun k hk => ⟨by funext l; unfold st3; rw [si_ok (by omega), sl_1, si_ok (by omega)], by funext l; unfold st3; rw [si_2, sl_ok (by omega), si_2]⟩)
theorem v40 {t p : Nat} (ht : t < 1025) (hp : p < 40) : (40 : Int32) * nI t + nI p = nI (40 * t + p) := by
  have : (40 : Int32) * nI t = nI (40 * t) := (Int32.ofNat_mul 40 t).symm
  rw [this, nI_add]
theorem RK.ok40 (h : RK sh n z ku f ls ns w L) {j : Nat} (hj : j < 41000) : (∀ k c, shF k = (c, 41000) → k < 513 → okA sh n k c (nI j) = true) ∧ (nI j).toNatClampNeg = j := ⟨fun k c ee hk => by rw [lay_a h.1 k c 41000 hk ee]; exact okI_nI (by omega) (by omega), nI_clamp (by omega)⟩
/-- a first coming -/
theorem come_f {R : Nat → Option Lc} {t : Nat} (ht : t < 1025) (x0 : Int32) : ∀ r p g z1, p + r = ls.length → r < g → RK sh n z1 ku f ls ns 0 L → RcP z1 ls.length R t (nrm L.2) none p → ∃ z', fn_X13_come_L38 F sh n 355 (nI t) 1 x0 g z1 (nI p) = some (z', ()) ∧ RK sh n z' ku f ls ns 0 L ∧ RcS z' ls.length (setR R t (nrm L.2)) ∧ FrL2 z1 z' := by
  intro r
  induction r with
  | zero =>
    intro p g z1 ep hg k P
    obtain ⟨g, rfl⟩ : ∃ q, g = q + 1 := ⟨g - 1, by omega⟩
    have a5 := k.2.1.2.2.2.1
    conv => enter [1, z', 1, 1]; unfold fn_X13_come_L38
    rw [k.2.1.2.2.1, if_pos ((nI_leI (by omega) (by omega)).mpr (by omega))]
    exact ⟨z1, rfl, k, P.done (by omega), FrL2.rfl'⟩
  | succ r ih =>
    intro p g z1 ep hg k P
    obtain ⟨g, rfl⟩ : ∃ q, g = q + 1 := ⟨g - 1, by omega⟩
    have a5 := k.2.1.2.2.2.1
    obtain ⟨ok, cp, e1, e2, e3⟩ := k.lr (a := p) (by omega)
    obtain ⟨okj, cj⟩ := k.ok40 (j := 40 * t + p) (by omega)
    obtain ⟨z2, s1, s2, s3, s4⟩ := ih (p + 1) g _ (by omega) (by omega) (k.put3 _ _ _ _) (P.put (by omega) a5)
    refine ⟨z2, ?_, s2, s3, (st3_l2 _ _ _ _ _).trans s4⟩
    have b140 : ∀ o, o = (nrm L.2).2.1 p → fn_X13_come_B140 F sh n 361 (nI (40 * t + p)) (nI p) (fun z9 q4 => fn_X13_come_L38 F sh n 355 (nI t) 1 x0 g z9 q4) (sl (si z1 359 (40 * t + p) (bI (L.2.1 p))) 360 (40 * t + p) o) (bI ((nrm L.2).2.2 p)) = some (z2, ()) := fun o eo => by
      unfold fn_X13_come_B140 fn_X13_come_B168
      rw [okj 361 103 rfl (by omega), grd_true, lt_t, cj, nar_bI, nI_1, eo]
      exact s1
    have b108 : ∀ o, o = (nrm L.2).2.1 p → fn_X13_come_B108 F sh n 360 (nI (40 * t + p)) 355 (nI p) (fun z9 q4 => fn_X13_come_L38 F sh n 355 (nI t) 1 x0 g z9 q4) (si z1 359 (40 * t + p) (bI (L.2.1 p))) o = some (z2, ()) := fun o eo => by
      have bb := b140 o eo
      unfold fn_X13_come_B108
      rw [okj 360 102 rfl (by omega), grd_true, lt_t, cj, sl_3, si_3, k.1.2.2 355 10 361 rfl, lnk_s, k.1.2.2 355 15 365 rfl, lnk_s, ok 365 103 rfl (by omega), grd_true, sl_1, cp, si_ok (by omega), e1]
      cases c : L.2.1 p with
      | false =>
        have en : (nrm L.2).2.2 p = false := by show (L.2.1 p && L.2.2.2 p) = false; rw [c]; rfl
        rw [en, c] at bb
        rw [if_pos (show bI false = 0 from rfl)]
        exact bb
      | true =>
        have en : (nrm L.2).2.2 p = L.2.2.2 p := by show (L.2.1 p && L.2.2.2 p) = _; rw [c]; rfl
        rw [en, c] at bb
        rw [if_neg (show ¬ bI true = 0 from one0), k.1.2.2 355 17 367 rfl, lnk_s, ok 367 103 rfl (by omega), grd_true, si_ok (by omega), e3]
        cases d : L.2.2.2 p with
        | false => rw [d] at bb; rw [if_pos (show bI false = 0 from rfl)]; exact bb
        | true => rw [d] at bb; rw [if_neg (show ¬ bI true = 0 from one0)]; exact bb
    conv => lhs; unfold fn_X13_come_L38
    rw [k.2.1.2.2.1, if_neg (fun q => by have := (nI_leI (by omega) (by omega)).mp q; omega), if_pos k.e0, v40 ht (by omega), lt_t, if_neg (show ¬ (1 : Int32) = 0 by decide), k.1.2.2 355 8 359 rfl, lnk_s, k.1.2.2 355 15 365 rfl, lnk_s, ok 365 103 rfl (by omega), grd_true, okj 359 103 rfl (by omega), grd_true, lt_t, cp, cj, e1, nar_bI, si_3, k.1.2.2 355 9 360 rfl, lnk_s, k.1.2.2 355 15 365 rfl, lnk_s, ok 365 103 rfl (by omega), grd_true, si_ok (by omega), e1]
    cases c : L.2.1 p with
    | false =>
      rw [if_pos (show bI false = 0 from rfl)]
      have := b108 0 (by show (0 : Int64) = if L.2.1 p = true then _ else _; rw [c]; rfl)
      rw [c] at this
      exact this
    | true =>
      have := b108 (L.2.2.1 p) (by show L.2.2.1 p = if L.2.1 p = true then _ else _; rw [c]; rfl)
      rw [c] at this
      rw [if_neg (show ¬ bI true = 0 from one0), k.1.2.2 355 16 366 rfl, lnk_s, ok 366 102 rfl (by omega), grd_true, si_2, e2]
      exact this
end
