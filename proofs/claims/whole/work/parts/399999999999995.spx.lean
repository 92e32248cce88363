/-! A MODULE AS BYTES: how it is read -/
abbrev Ex (α : Type) : Type := Except (Nat × Nat) α
theorem ok_bq {ε α β : Type} (a : α) (g : α → Except ε β) : ((Except.ok a : Except ε α) >>= g) = g a := rfl
def rBy (b : Nat → Nat) (len p : Nat) : Ex (Nat × Nat) := if p < len then .ok (b p, p + 1) else .error (2, len)
def rN (b : Nat → Nat) (len lo hi p : Nat) : Ex (Nat × Nat) := rBy b len p >>= fun q => if q.1 < lo ∨ hi < q.1 then .error (3, p) else .ok q
def sk (len k p : Nat) : Ex (Unit × Nat) := if p + k ≤ len then .ok ((), p + k) else .error (2, len)
/-- a type's end: its base; J = how many structures there are, where that is judged -/
def rTe (b : Nat → Nat) (len : Nat) (J : Option Nat) (t : Ty) (w c p : Nat) : Ex (Ty × Nat) := if c < 1 ∨ 6 < c then .error (4, w) else if c = 6 then rBy b len p >>= fun q => if (match J with | none => false | some m => decide (m ≤ q.1)) = true then .error (7, p) else .ok (t ++ [6, q.1], q.2) else .ok (t ++ [c], p)
def rTv (b : Nat → Nat) (len : Nat) (J : Option Nat) : Nat → Ty → Nat → Nat → Nat → Ex (Ty × Nat)
  | 0, t, w, c, p => rTe b len J t w c p
  | k + 1, t, w, c, p => if c = 7 then rBy b len p >>= fun q => rTv b len J k (t ++ [7]) p q.1 q.2 else rTe b len J t w c p
def rT (b : Nat → Nat) (len : Nat) (J : Option Nat) (rf : Bool) (p : Nat) : Ex (Ty × Nat) := rBy b len p >>= fun q => if (rf && (q.1 == 8 || q.1 == 9)) = true then rBy b len q.2 >>= fun r => rTv b len J 4 [q.1] q.2 r.1 r.2 else rTv b len J 4 [] p q.1 q.2
def pTs (b : Nat → Nat) (len : Nat) (J : Option Nat) (rf : Bool) : Nat → Nat → Ex (List Ty × Nat)
  | 0, p => .ok ([], p)
  | k + 1, p => rT b len J rf p >>= fun t => pTs b len J rf k t.2 >>= fun ts => .ok (t.1 :: ts.1, ts.2)
def pLs (b : Nat → Nat) (len : Nat) (J : Option Nat) (most p : Nat) : Ex (List Ty × Nat) := rN b len 0 most p >>= fun q => pTs b len J true q.1 q.2
/-! THE REFERENCE'S UNIT: its bytes, its cursor -/
def UB (sh : Nat → Nat × Nat) (n : Nat) (z : St) (ku : Nat) (b : Nat → Nat) (len : Nat) : Prop := Lay sh n z ∧ isU ku ∧ z.1 ku 1 = nI len ∧ len ≤ 2048 ∧ ∀ p, p < len → z.1 (ku + 1) p &&& 255 = nI (b p) ∧ b p < 256
def US (sh : Nat → Nat × Nat) (n : Nat) (z : St) (ku : Nat) (b : Nat → Nat) (len p : Nat) : Prop := UB sh n z ku b len ∧ z.1 ku 2 = nI p ∧ p ≤ len ∧ z.1 ku 3 = nI 0
def UF (sh : Nat → Nat × Nat) (n : Nat) (z : St) (ku : Nat) (b : Nat → Nat) (len w q : Nat) : Prop := UB sh n z ku b len ∧ z.1 ku 3 = nI w ∧ 0 < w ∧ w < 16 ∧ z.1 ku 4 = nI q
def UP {α : Type} (sh : Nat → Nat × Nat) (n : Nat) (z : St) (ku : Nat) (b : Nat → Nat) (len : Nat) : Ex (α × Nat) → Prop
  | .ok q => US sh n z ku b len q.2
  | .error e => UF sh n z ku b len e.1 e.2
/-- only the cursor and the fault -/
def FrCu (ku : Nat) (z z' : St) : Prop := z'.2 = z.2 ∧ (∀ k, k ≠ ku → z'.1 k = z.1 k) ∧ ∀ j, j ≠ 2 → j ≠ 3 → j ≠ 4 → z'.1 ku j = z.1 ku j
theorem FrCu.rfl' {ku : Nat} {z : St} : FrCu ku z z := ⟨rfl, fun _ _ => rfl, fun _ _ _ _ => rfl⟩
theorem FrCu.trans {ku : Nat} {z z' z'' : St} (f : FrCu ku z z') (g : FrCu ku z' z'') : FrCu ku z z'' := ⟨g.1.trans f.1, fun k h => (g.2.1 k h).trans (f.2.1 k h), fun j a b c => (g.2.2 j a b c).trans (f.2.2 j a b c)⟩
theorem FrCu.si {ku j : Nat} {z : St} {v : Int32} (h : j = 2 ∨ j = 3 ∨ j = 4) : FrCu ku z (si z ku j v) := ⟨rfl, fun k hk => by funext l; rw [si_ok hk], fun l a b c => by rw [si_oj (by omega)]⟩
section
variable {F n : Nat} {sh : Nat → Nat × Nat} {z z' : St} {ku len p : Nat} {b : Nat → Nat}
theorem UB.fr (h : UB sh n z ku b len) (f : FrCu ku z z') : UB sh n z' ku b len := by
  obtain ⟨h1, h2, h3, h4, h5⟩ := h
  refine ⟨h1.of (by rw [f.1]), h2, by rw [f.2.2 1 (by omega) (by omega) (by omega)]; exact h3, h4, fun p hp => by rw [f.2.1 (ku + 1) (by omega)]; exact h5 p hp⟩
theorem UB.o (h : UB sh n z ku b len) : okO sh n ku 16 = true := (b_unit h.1 h.2.1).1
theorem UB.good (h : UB sh n z ku b len) {w : Nat} (hw : z.1 ku 3 = nI w) (h16 : w < 16) : fn_X16_isGood F sh n z ku = some (z, bI (w == 0)) := by
  unfold fn_X16_isGood
  rw [h.o, grd_true, hw]
  by_cases c : w = 0
  · rw [if_pos ((nIe (x := 0) 0 rfl (by omega) (by omega)).mpr c), c]; rfl
  · rw [if_neg (fun q => c ((nIe (x := 0) 0 rfl (by omega) (by omega)).mp q)), beq_eq_false_iff_ne.mpr c]; rfl
theorem US.good (h : US sh n z ku b len p) : fn_X16_isGood F sh n z ku = some (z, 1) := h.1.good (w := 0) h.2.2.2 (by omega)
theorem UF.good {w q : Nat} (h : UF sh n z ku b len w q) : fn_X16_isGood F sh n z ku = some (z, 0) := by
  have := h.1.good (F := F) h.2.1 h.2.2.2.1
  rw [beq_eq_false_iff_ne.mpr (show w ≠ 0 by have := h.2.2.1; omega)] at this
  exact this
theorem US.fail (h : US sh n z ku b len p) {w q : Nat} (h0 : 0 < w) (h16 : w < 16) : ∃ z', fn_X16_fail F sh n z ku (nI w) (nI q) = some (z', ()) ∧ UF sh n z' ku b len w q ∧ FrCu ku z z' := by
  unfold fn_X16_fail
  rw [h.1.o, grd_true, h.2.2.2, if_pos (show nI 0 = 0 from rfl), lt_t, lt_t]
  have f : FrCu ku z (si (si z ku 3 (nI w)) ku 4 (nI q)) := (FrCu.si (by omega)).trans (FrCu.si (by omega))
  exact ⟨_, rfl, ⟨h.1.fr f, by rw [si_oj (by omega), si_ss], h0, h16, si_ss⟩, f⟩
theorem UF.fail {w q : Nat} (h : UF sh n z ku b len w q) (v x : Int32) : fn_X16_fail F sh n z ku v x = some (z, ()) := by
  unfold fn_X16_fail
  rw [h.1.o, grd_true, h.2.1, if_neg (nI_ne0 h.2.2.1 (by have := h.2.2.2.1; omega))]
theorem UB.byte (h : UB sh n z ku b len) {q : Nat} (hq : q < len) : fn_X16_byteAt F sh n z ku (nI q) = some (z, nI (b q)) := by
  obtain ⟨h1, h2, h3, h4, h5⟩ := h
  obtain ⟨u0, u1, _, _, _, _, _, _, _, u9, _⟩ := b_unit h1 h2
  have ok : okA sh n (ku + 1) 100 (nI q) = true := by rw [u9]; exact okI_nI (by omega) (by omega)
  unfold fn_X16_byteAt
  rw [u0, grd_true, h3, if_neg (fun x => by have := (nI_leI (by omega) (by omega)).mp x; omega), u1, lnk_s, ok, grd_true, nI_clamp (by omega), (h5 q hq).1]
theorem UB.byte0 (h : UB sh n z ku b len) {q : Nat} (hq : len ≤ q) (h31 : q < 2 ^ 31) : fn_X16_byteAt F sh n z ku (nI q) = some (z, 0) := by
  obtain ⟨h1, h2, h3, h4, h5⟩ := h
  obtain ⟨u0, u1, _⟩ := b_unit h1 h2
  unfold fn_X16_byteAt
  rw [u0, grd_true, h3, if_pos ((nI_leI (by omega) (by omega)).mpr hq)]
theorem US.over (h : US sh n z ku b len p) {k : Nat} (hk : k < 100) : ∃ z', fn_X16_over F sh n z ku (nI k) = some (z', nI p) ∧ UP sh n z' ku b len (sk len k p) ∧ FrCu ku z z' := by
  obtain ⟨h1, h2, h3, h4⟩ := h
  have l8 := h1.2.2.2.1
  unfold fn_X16_over sk
  rw [h1.o, grd_true, h2, lt_t, nI_add, h1.2.2.1]
  by_cases c : p + k ≤ len
  · rw [if_pos ((nI_leI (by omega) (by omega)).mpr c), lt_t, if_pos c]
    have f : FrCu ku z (si z ku 2 (nI (p + k))) := FrCu.si (by omega)
    exact ⟨_, rfl, ⟨h1.fr f, si_ss, c, by rw [si_oj (by omega)]; exact h4⟩, f⟩
  · obtain ⟨z', q1, q2, q3⟩ := US.fail (F := F) (⟨h1, h2, h3, h4⟩ : US sh n z ku b len p) (w := 2) (q := len) (by omega) (by omega)
    have q1' : fn_X16_fail F sh n z ku 2 (nI len) = some (z', ()) := q1
    rw [if_neg (fun x => c ((nI_leI (by omega) (by omega)).mp x)), if_neg c, q1', cal_s]
    exact ⟨z', rfl, q2, q3⟩
theorem US.over1 (h : US sh n z ku b len p) : ∃ z', fn_X16_over F sh n z ku 1 = some (z', nI p) ∧ UP sh n z' ku b len (rBy b len p) ∧ FrCu ku z z' := by
  obtain ⟨z', q1, q2, q3⟩ := h.over (F := F) (k := 1) (by omega)
  refine ⟨z', q1, ?_, q3⟩
  unfold rBy
  unfold sk at q2
  by_cases c : p < len
  · rw [if_pos (show p + 1 ≤ len by omega)] at q2; rw [if_pos c]; exact q2
  · rw [if_neg (show ¬ p + 1 ≤ len by omega)] at q2; rw [if_neg c]; exact q2
theorem rBy_ok {b : Nat → Nat} {len p : Nat} {q : Nat × Nat} (h : rBy b len p = .ok q) : p < len ∧ q = (b p, p + 1) := by
  unfold rBy at h
  by_cases c : p < len
  · rw [if_pos c] at h; cases h; exact ⟨c, rfl⟩
  · rw [if_neg c] at h; cases h
def vN (r : Ex (Nat × Nat)) : Nat := match r with | .ok q => q.1 | .error _ => 0
theorem US.count (h : US sh n z ku b len p) {lo hi : Nat} (hl : lo < 256) (hh : hi < 256) : ∃ z', fn_X16_count F sh n z ku (nI lo) (nI hi) = some (z', nI (vN (rN b len lo hi p))) ∧ UP sh n z' ku b len (rN b len lo hi p) ∧ FrCu ku z z' := by
  obtain ⟨z1, q1, q2, q3⟩ := h.over1 (F := F)
  unfold fn_X16_count rN
  rw [h.1.o, grd_true, q1, cal_s]
  cases e : rBy b len p with
  | error w =>
    rw [e] at q2
    have g := UF.good (F := F) q2
    rw [g, cal_s, if_pos rfl]
    unfold fn_X16_count_B37
    rw [g, cal_s, if_pos rfl]
    exact ⟨z1, rfl, q2, q3⟩
  | ok q =>
    rw [e] at q2
    obtain ⟨c1, c2⟩ := rBy_ok e
    subst c2
    have q2' : US sh n z1 ku b len (p + 1) := q2
    have b8 := (h.1.2.2.2.2 p c1).2
    have by1 := q2'.1.byte (F := F) c1
    have g := q2'.good (F := F)
    have b37 : fn_X16_count_B37 F sh n ku (nI p) z1 = some (z1, nI (b p)) := by
      unfold fn_X16_count_B37
      rw [g, cal_s, if_neg (by decide), by1, cal_s]
    obtain ⟨z2, s1, s2, s3⟩ := q2'.fail (F := F) (w := 3) (q := p) (by omega) (by omega)
    have s1' : fn_X16_fail F sh n z1 ku 3 (nI p) = some (z2, ()) := s1
    have b31 : fn_X16_count_B31 F sh n ku (nI p) z1 = some (z2, 0) := by
      unfold fn_X16_count_B31 fn_X16_count_B37
      rw [s1', cal_s, s2.good, cal_s, if_pos rfl]
    rw [g, cal_s, if_neg (by decide), by1, cal_s, by1, cal_s, ok_bq]
    show ∃ z', _ = some (z', nI (vN (if b p < lo ∨ hi < b p then .error (3, p) else .ok (b p, p + 1)))) ∧ UP sh n z' ku b len (if b p < lo ∨ hi < b p then .error (3, p) else .ok (b p, p + 1) : Ex (Nat × Nat)) ∧ _
    by_cases d1 : b p < lo
    · rw [if_pos ((nI_ltI (by omega) (by omega)).mpr d1), b31, if_pos (Or.inl d1)]
      exact ⟨z2, rfl, s2, q3.trans s3⟩
    rw [if_neg (fun x => d1 ((nI_ltI (by omega) (by omega)).mp x))]
    by_cases d2 : b p ≤ hi
    · rw [if_pos ((nI_leI (by omega) (by omega)).mpr d2), b37, if_neg (show ¬ (b p < lo ∨ hi < b p) by omega)]
      exact ⟨z1, rfl, q2', q3⟩
    · rw [if_neg (fun x => d2 ((nI_leI (by omega) (by omega)).mp x)), b31, if_pos (show b p < lo ∨ hi < b p by omega)]
      exact ⟨z2, rfl, s2, q3.trans s3⟩
end
