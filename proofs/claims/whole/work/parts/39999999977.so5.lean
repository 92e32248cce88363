/-! THE REFERENCE'S LOOKER: taking and giving as looking says; what points where -/
def RR (sh : Nat → Nat × Nat) (n : Nat) (z : St) (ku f : Nat) (ls : List Ty) (ns : Nat) : Px Lks → Prop
  | .ok L => RK sh n z ku f ls ns 0 L
  | .error w => 0 < w ∧ ∃ L, RK sh n z ku f ls ns w L
def RT (sh : Nat → Nat × Nat) (n : Nat) (z : St) (ku f : Nat) (ls : List Ty) (ns : Nat) : Px (SS × Lks) → Prop
  | .ok q => RK sh n z ku f ls ns 0 q.2 ∧ tknS z q.1 ∧ TBr ns q.1.1
  | .error w => 0 < w ∧ ∃ L, RK sh n z ku f ls ns w L
def lTakeQ (t : Ty) (L : Lks) : Px (SS × Lks) := lTake L >>= fun q => nd_ (q.1.1 == t) 3 >>= fun _ => .ok q
theorem lTakeT_q (t : Ty) (L : Lks) : lTakeT t L = lTakeQ t L >>= fun q => .ok q.2 := by
  unfold lTakeT lTakeQ
  cases lTake L with
  | error w => rfl
  | ok q =>
    show (nd_ (q.1.1 == t) 3 >>= fun _ => Except.ok q.2) = (nd_ (q.1.1 == t) 3 >>= fun _ => Except.ok q) >>= fun q => Except.ok q.2
    cases nd_ (q.1.1 == t) 3 <;> rfl
theorem ok_b {α β : Type} (a : α) (g : α → Px β) : ((Except.ok a : Px α) >>= g) = g a := rfl
theorem er_b {α β : Type} (w : Nat) (g : α → Px β) : ((Except.error w : Px α) >>= g) = .error w := rfl
theorem nd_t (w : Nat) : nd_ true w = .ok () := rfl
theorem nd_f (w : Nat) : nd_ false w = .error w := rfl
theorem tL_0 {t : Ty} (h : TB t) : ¬ tL t = 0 := fun e => by
  have := N_eq0.mp e
  rw [h.lt.2] at this
  have := (h.zero 0).mp (by rw [this])
  have := h.len
  omega
theorem rng_s (P : Nat → Bool) (p r : Nat) : (List.range' p (r + 1)).any P = (P p || (List.range' (p + 1) r).any P) := by
  rw [List.range'_succ]; rfl
theorem rng_a (P : Nat → Bool) (p r : Nat) : (List.range' p (r + 1)).all P = (P p && (List.range' (p + 1) r).all P) := by
  rw [List.range'_succ]; rfl
section
variable {F n : Nat} {sh : Nat → Nat × Nat} {z z' : St} {ku f w ns : Nat} {ls : List Ty} {L : Lks}
theorem RK.e0 (h : RK sh n z ku f ls ns 0 L) : z.1 355 18 = 0 := h.2.2.2.2.1
theorem RK.ee (h : RK sh n z ku f ls ns w L) (hw : 0 < w) : ¬ z.1 355 18 = 0 := by
  rw [h.2.2.2.2.1]; exact nI_ne0 hw (by have := h.2.2.2.2.2; omega)
theorem RK.pushP (hF : 300 ≤ F) (h : RK sh n z ku f ls ns 0 L) {t : Ty} (ht : TBr ns t) (o : Int64) (b : Bool) : ∃ z', fn_X13_push F sh n z 355 (tL t) o (bI b) = some (z', ()) ∧ RR sh n z' ku f ls ns (lPush (t, rO t o, rI t b) L) ∧ FrLk z z' ∧ TkE z z' := by
  obtain ⟨z', v, q1, q2, q3, q4, q5, q6⟩ := h.push (F := F) hF ht o b
  refine ⟨z', q1, ?_, q2, q3⟩
  unfold lPush
  by_cases c : 64 ≤ L.1.1
  · rw [if_pos c]
    rcases q4 with e | e
    · have := q6.mp e; omega
    · subst e; exact ⟨by omega, _, q5⟩
  · rw [if_neg c]
    have : v = 0 := q6.mpr (by omega)
    subst this
    exact q5
theorem RK.giveP (hF : 300 ≤ F) (h : RK sh n z ku f ls ns 0 L) {t : Ty} (ht : TBr ns t) : ∃ z', fn_X13_give F sh n z 355 (tL t) = some (z', ()) ∧ RR sh n z' ku f ls ns (lPush (t, 0, false) L) ∧ FrLk z z' := by
  obtain ⟨z', q1, q2, q3, q4⟩ := h.pushP (F := F) hF ht 0 false
  refine ⟨z', ?_, ?_, q3⟩
  · unfold fn_X13_give
    have q1' : fn_X13_push F sh n z 355 (tL t) 0 0 = some (z', ()) := q1
    rw [h.o13, grd_true, q1', cal_s]
  · have e1 : rO t 0 = 0 := by unfold rO; by_cases c : isR t = true <;> simp [c]
    have e2 : rI t false = false := by unfold rI; rw [Bool.and_false]
    rw [e1, e2] at q2
    exact q2
theorem RK.takeP (h : RK sh n z ku f ls ns 0 L) : ∃ z', fn_X13_take F sh n z 355 = some (z', ()) ∧ RT sh n z' ku f ls ns (lTake L) ∧ FrLk z z' := by
  obtain ⟨z', v, L', q1, q2, q3, q4⟩ := h.take (F := F)
  refine ⟨z', q1, ?_, q2⟩
  unfold lTake
  rcases q4 with ⟨e1, e2⟩ | ⟨e1, e2, e3, e4⟩
  · subst e1; rw [if_pos e2]; exact ⟨by omega, _, q3⟩
  · subst e1; subst e3
    rw [if_neg (by omega)]
    exact ⟨q3, e4, (h.2.2.1.2.2.2 (L.1.1 - 1) (by omega)).2.2.2⟩
theorem RK.takeTP (h : RK sh n z ku f ls ns 0 L) {t : Ty} (ht : TB t) : ∃ z', fn_X13_take_ F sh n z 355 (tL t) = some (z', ()) ∧ RT sh n z' ku f ls ns (lTakeQ t L) ∧ FrLk z z' := by
  obtain ⟨z1, q1, q2, q3⟩ := h.takeP (F := F)
  unfold fn_X13_take_ lTakeQ
  rw [h.o13, grd_true, q1, cal_s]
  cases r : lTake L with
  | error w =>
    rw [r] at q2
    obtain ⟨w0, L1, q2⟩ := q2
    rw [if_neg (q2.ee w0)]
    exact ⟨z1, rfl, ⟨w0, L1, q2⟩, q3⟩
  | ok q =>
    rw [r] at q2
    obtain ⟨k1, k2, k3⟩ := q2
    rw [if_pos k1.e0, k2.1, ok_b]
    by_cases c : q.1.1 = t
    · rw [if_pos (by rw [c]), show (q.1.1 == t) = true from beq_iff_eq.mpr c]
      exact ⟨z1, rfl, ⟨k1, k2, k3⟩, q3⟩
    · rw [if_neg (fun e => c ((k3.1.inj ht).mp e)), show (q.1.1 == t) = false from beq_eq_false_iff_ne.mpr c]
      obtain ⟨z2, p1, p2, p3, p4⟩ := k1.fl (F := F) (v := 3) (by omega) (by omega)
      have p1' : fn_X13_fail F sh n z1 355 3 = some (z2, ()) := p1
      rw [p1', cal_s]
      exact ⟨z2, rfl, ⟨by omega, _, p2⟩, q3.trans p3⟩
theorem RK.takeRP (hF : 300 ≤ F) (h : RK sh n z ku f ls ns 0 L) (to : Option Ty) (hto : ∀ t, to = some t → TB t) (wr : Bool) : ∃ z', fn_X13_takeReference F sh n z 355 (match to with
    | none => 0
    | some t => tL t) (bI wr) = some (z', ()) ∧ RT sh n z' ku f ls ns (lTakeR to wr L) ∧ FrLk z z' := by
  obtain ⟨z1, q1, q2, q3⟩ := h.takeP (F := F)
  unfold fn_X13_takeReference lTakeR
  rw [h.o13, grd_true, q1, cal_s]
  cases r : lTake L with
  | error w =>
    rw [r] at q2
    obtain ⟨w0, L1, q2⟩ := q2
    rw [if_neg (q2.ee w0)]
    exact ⟨z1, rfl, ⟨w0, L1, q2⟩, q3⟩
  | ok q =>
    rw [r] at q2
    obtain ⟨k1, k2, k3⟩ := q2
    rw [if_pos k1.e0, k2.1, isRefR_t hF k3.1, cal_s, ok_b]
    -- the rest, by whether it fits
    have rest : ∀ g g' : Bool, g' = g → ∃ z', fn_X13_takeReference_B45 F sh n 355 (bI wr) z1 (bI g) = some (z', ()) ∧ RT sh n z' ku f ls ns (nd_ g' 3 >>= fun _ => nd_ (!wr || hdT q.1.1 == 9) 7 >>= fun _ => .ok q) ∧ FrLk z z' := fun g g' eg => by
      subst eg
      obtain ⟨z2, p1, p2, p3, p4⟩ := k1.need (F := F) g' (v := 3) (by omega) (by omega)
      rw [if_pos rfl] at p2
      have p1' : fn_X13_need F sh n z1 355 (bI g') 3 = some (z2, ()) := p1
      unfold fn_X13_takeReference_B45
      rw [p1', cal_s]
      have fin : ∀ b : Bool, b = (!wr || hdT q.1.1 == 9) → ∃ z', cal (fn_X13_need F sh n z2 355 (bI b) 7) (fun z_13 _ => some (z_13, ())) = some (z', ()) ∧ RT sh n z' ku f ls ns (nd_ g' 3 >>= fun _ => nd_ (!wr || hdT q.1.1 == 9) 7 >>= fun _ => .ok q) ∧ FrLk z z' := fun b hb => by
        obtain ⟨z3, s1, s2, s3, s4⟩ := p2.need (F := F) b (v := 7) (by omega) (by omega)
        have s1' : fn_X13_need F sh n z2 355 (bI b) 7 = some (z3, ()) := s1
        rw [s1', cal_s]
        refine ⟨z3, rfl, ?_, (q3.trans p3).trans s3⟩
        rw [← hb]
        cases g' with
        | false => rw [if_neg (show ¬ (if false = true then 0 else 3) = 0 by simp)] at s2; exact ⟨by decide, _, s2⟩
        | true =>
          rw [if_pos (show (if true = true then 0 else 3) = 0 from rfl)] at s2
          cases b with
          | false => exact ⟨by decide, _, s2⟩
          | true => exact ⟨s2, ⟨by rw [s4.1, p4.1]; exact k2.1, by rw [s4.2.1, p4.2.1]; exact k2.2.1, by rw [s4.2.2, p4.2.2]; exact k2.2.2⟩, k3⟩
      cases wr with
      | false =>
        rw [if_pos (show bI false = 0 from rfl)]
        exact fin true rfl
      | true =>
        rw [if_neg (show ¬ bI true = 0 from one0), p4.1, k2.1, writesR_t hF k3.1, cal_s]
        cases e : (hdT q.1.1 == 9) with
        | false =>
          rw [if_pos (show bI false = 0 from rfl)]
          have := fin false (by rw [e]; rfl)
          rw [e] at this
          exact this
        | true =>
          rw [if_neg (show ¬ bI true = 0 from one0)]
          have := fin true (by rw [e]; rfl)
          rw [e] at this
          exact this
    cases e : isR q.1.1 with
    | false =>
      rw [if_pos (show bI false = 0 from rfl), Bool.false_and]
      exact rest false false rfl
    | true =>
      rw [if_neg (show ¬ bI true = 0 from one0), Bool.true_and]
      cases to with
      | none => rw [if_pos rfl]; exact rest true true rfl
      | some t =>
        have tb := hto t rfl
        obtain ⟨b, p, ep, _⟩ := k3.1.ne
        have pp : fn_X13_pointed F sh n z1 (tL q.1.1) = some (z1, tL p) := by
          have k3' := k3.1
          rw [ep] at k3' ⊢
          exact pointedR_t hF k3'
        rw [if_neg (tL_0 tb), k2.1, pp, cal_s]
        have et : q.1.1.tail = p := by rw [ep]; rfl
        have tp : TB p := by have := (k3.2.1 e).1; rwa [et] at this
        by_cases c : p = t
        · rw [if_pos (by rw [c])]
          exact rest true _ (show (q.1.1.tail == t) = true by rw [et, c]; exact beq_self_eq_true t)
        · rw [if_neg (fun w => c ((tp.inj tb).mp w))]
          exact rest false _ (show (q.1.1.tail == t) = false by rw [et]; exact beq_eq_false_iff_ne.mpr c)
/-- does a live reference have an origin -/
theorem RK.pt (hF : 300 ≤ F) (h : RK sh n z ku f ls ns w L) {b : Nat} (hb : b < 64) (wr : Bool) : fn_X13_isPointed F sh n z 355 (nI b) (bI wr) = some (z, bI (lPt ls L b wr)) := by
  obtain ⟨a1, ⟨a2, a3, a4, a5, a6⟩, ⟨b1, b2, b3, b4⟩, c1, d1, d2⟩ := h
  have O := lay_o a1 355 13 0 (by decide) rfl
  have okz : ∀ x : Bool, okZ (bI x) = true := fun x => by cases x <;> rfl
  have l66 : ∀ r p g acc, p + r = ls.length → r < g → fn_X13_isPointed_L66 F sh n 355 (nI b) (bI wr) g z (bI acc) (nI p) = some (z, bI (acc || (List.range' p r).any (fun k => L.2.1 k && ob (L.2.2.1 k) b && (!wr || hdT (ls.getD k []) == 9)))) := by
    intro r
    induction r with
    | zero =>
      intro p g acc e hg
      obtain ⟨g, rfl⟩ : ∃ q, g = q + 1 := ⟨g - 1, by omega⟩
      conv => lhs; unfold fn_X13_isPointed_L66
      rw [a4, if_pos ((nI_leI (by omega) (by omega)).mpr (by omega)), okz, grd_true]
      simp
    | succ r ih =>
      intro p g acc e hg
      obtain ⟨g, rfl⟩ : ∃ q, g = q + 1 := ⟨g - 1, by omega⟩
      obtain ⟨e1, e2, e3⟩ := c1 p (by omega)
      obtain ⟨g1, g2⟩ := a6 p (by omega)
      have cp : (nI p).toNatClampNeg = p := nI_clamp (by omega)
      have ok : ∀ k c, shF k = (c, 40) → k < 513 → okA sh n k c (nI p) = true := fun k c ee hk => by rw [lay_a a1 k c 40 hk ee]; exact okI_nI (by omega) (by omega)
      have nx : ∀ a : Bool, fn_X13_isPointed_B127 F sh n (nI p) (fun z9 q3 q4 => fn_X13_isPointed_L66 F sh n 355 (nI b) (bI wr) g z9 q3 q4) z (bI a) = some (z, bI (a || (List.range' (p + 1) r).any (fun k => L.2.1 k && ob (L.2.2.1 k) b && (!wr || hdT (ls.getD k []) == 9)))) := fun a => by
        show fn_X13_isPointed_L66 F sh n 355 (nI b) (bI wr) g z (bI a) (nI p + 1) = _
        rw [nI_1]; exact ih (p + 1) g a (by omega) (by omega)
      rw [rng_s]
      conv => lhs; unfold fn_X13_isPointed_L66
      rw [a4, if_neg (fun q => by have := (nI_leI (by omega) (by omega)).mp q; omega)]
      cases acc with
      | true =>
        rw [if_neg (show ¬ bI true = 0 from one0)]
        have := nx true
        rw [Bool.true_or] at this ⊢
        exact this
      | false =>
        rw [if_pos (show bI false = 0 from rfl), Bool.false_or, a1.2.2 355 15 365 rfl, lnk_s, ok 365 103 rfl (by omega), grd_true, cp, e1]
        cases t : L.2.1 p with
        | false =>
          rw [if_pos (show bI false = 0 from rfl)]
          have := nx false
          rw [Bool.false_and, Bool.false_and]
          exact this
        | true =>
          rw [if_neg (show ¬ bI true = 0 from one0), a1.2.2 355 16 366 rfl, lnk_s, ok 366 102 rfl (by omega), grd_true, e2, Bool.true_and]
          cases o : ob (L.2.2.1 p) b with
          | false =>
            rw [if_neg (fun q => by have := (ob_sh hb).mp q; rw [o] at this; exact absurd this (by simp)), Bool.false_and]
            exact nx false
          | true =>
            rw [if_pos ((ob_sh hb).mpr o), Bool.true_and]
            cases wr with
            | false =>
              rw [if_pos (show bI false = 0 from rfl)]
              exact nx true
            | true =>
              rw [if_neg (show ¬ bI true = 0 from one0), a1.2.2 355 3 356 rfl, lnk_s, ok 356 102 rfl (by omega), grd_true, g1, writesR_t hF g2.1, cal_s]
              cases e9 : (hdT (ls.getD p []) == 9) with
              | false =>
                rw [if_pos (show bI false = 0 from rfl)]
                exact nx false
              | true =>
                rw [if_neg (show ¬ bI true = 0 from one0)]
                exact nx true
  have l5 : ∀ r p g acc, p + r = L.1.1 → r < g → fn_X13_isPointed_L5 F sh n 355 (nI b) (bI wr) g z (bI acc) (nI p) = some (z, bI ((acc || (List.range' p r).any (fun k => ob (L.1.2 k).2.1 b && (!wr || hdT (L.1.2 k).1 == 9))) || (List.range ls.length).any (fun k => L.2.1 k && ob (L.2.2.1 k) b && (!wr || hdT (ls.getD k []) == 9)))) := by
    intro r
    induction r with
    | zero =>
      intro p g acc e hg
      obtain ⟨g, rfl⟩ : ∃ q, g = q + 1 := ⟨g - 1, by omega⟩
      conv => lhs; unfold fn_X13_isPointed_L5
      rw [O, grd_true, b1, if_pos ((nI_leI (by omega) (by omega)).mpr (by omega))]
      have := l66 ls.length 0 F acc (by omega) (by omega)
      rw [List.range_eq_range']
      simp only [List.range'_zero, List.any_nil, Bool.or_false]
      exact this
    | succ r ih =>
      intro p g acc e hg
      obtain ⟨g, rfl⟩ : ∃ q, g = q + 1 := ⟨g - 1, by omega⟩
      obtain ⟨e1, e2, e3, e4⟩ := b4 p (by omega)
      have cp : (nI p).toNatClampNeg = p := nI_clamp (by omega)
      have ok : ∀ k c, shF k = (c, 200) → k < 513 → okA sh n k c (nI p) = true := fun k c ee hk => by rw [lay_a a1 k c 200 hk ee]; exact okI_nI (by omega) (by omega)
      have nx : ∀ a : Bool, fn_X13_isPointed_B56 F sh n (nI p) (fun z9 q3 q4 => fn_X13_isPointed_L5 F sh n 355 (nI b) (bI wr) g z9 q3 q4) z (bI a) = some (z, bI ((a || (List.range' (p + 1) r).any (fun k => ob (L.1.2 k).2.1 b && (!wr || hdT (L.1.2 k).1 == 9))) || (List.range ls.length).any (fun k => L.2.1 k && ob (L.2.2.1 k) b && (!wr || hdT (ls.getD k []) == 9)))) := fun a => by
        show fn_X13_isPointed_L5 F sh n 355 (nI b) (bI wr) g z (bI a) (nI p + 1) = _
        rw [nI_1]; exact ih (p + 1) g a (by omega) (by omega)
      rw [rng_s]
      conv => lhs; unfold fn_X13_isPointed_L5
      rw [O, grd_true, b1, if_neg (fun q => by have := (nI_leI (by omega) (by omega)).mp q; omega)]
      cases acc with
      | true =>
        rw [if_neg (show ¬ bI true = 0 from one0)]
        have := nx true
        rw [Bool.true_or] at this ⊢
        exact this
      | false =>
        rw [if_pos (show bI false = 0 from rfl), Bool.false_or, a1.2.2 355 12 363 rfl, lnk_s, ok 363 102 rfl (by omega), grd_true, cp, e2]
        cases o : ob (L.1.2 p).2.1 b with
        | false =>
          rw [if_neg (fun q => by have := (ob_sh hb).mp q; rw [o] at this; exact absurd this (by simp)), Bool.false_and]
          exact nx false
        | true =>
          rw [if_pos ((ob_sh hb).mpr o), Bool.true_and]
          cases wr with
          | false =>
            rw [if_pos (show bI false = 0 from rfl)]
            exact nx true
          | true =>
            rw [if_neg (show ¬ bI true = 0 from one0), a1.2.2 355 11 362 rfl, lnk_s, ok 362 102 rfl (by omega), grd_true, e1, writesR_t hF e4.1, cal_s]
            cases e9 : (hdT (L.1.2 p).1 == 9) with
            | false =>
              rw [if_pos (show bI false = 0 from rfl)]
              exact nx false
            | true =>
              rw [if_neg (show ¬ bI true = 0 from one0)]
              exact nx true
  have := l5 L.1.1 0 F false (by omega) (by omega)
  rw [Bool.false_or, ← List.range_eq_range'] at this
  exact this
end
