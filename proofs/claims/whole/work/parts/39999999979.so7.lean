/-! THE REFERENCE'S LOOKER: numbers, references -/
def OpR (sh : Nat → Nat × Nat) (n : Nat) (z : St) (ku f : Nat) (ls : List Ty) (ns : Nat) (X : Option (St × Unit)) (r : Px Lks) : Prop := ∃ z', X = some (z', ()) ∧ RR sh n z' ku f ls ns r ∧ FrLk z z'
theorem tLk (k : Nat) : tL [k] = lN k := by simp [tL, tV]
theorem TBk {k : Nat} (h1 : 1 ≤ k) (h5 : k ≤ 5) : TB [k] := ⟨by simp, ⟨h1, by show k ≤ 9; omega⟩, fun b hb => by simp at hb; omega⟩
theorem TBrk {ns k : Nat} (h1 : 1 ≤ k) (h5 : k ≤ 5) : TBr ns [k] := ⟨TBk h1 h5, fun q => by simp [isR, hdT] at q; omega, fun s q => by simp [endS] at q⟩
theorem isNum_t {F n : Nat} {sh : Nat → Nat × Nat} {z : St} {t : Ty} (h : TB t) : fn_X13_isNumber F sh n z (tL t) = some (z, bI (isN t)) := by
  have k : ∀ j, 1 ≤ j → j ≤ 5 → (tL t = lN j ↔ t = [j]) := fun j a b => by rw [← tLk]; exact h.inj (TBk a b)
  have k2 : tL t = 2 ↔ t = [2] := k 2 (by omega) (by omega)
  have k3 : tL t = 3 ↔ t = [3] := k 3 (by omega) (by omega)
  have k4 : tL t = 4 ↔ t = [4] := k 4 (by omega) (by omega)
  unfold fn_X13_isNumber isN
  by_cases c2 : t = [2]
  · rw [if_pos (k2.mpr c2), c2]; rfl
  · rw [if_neg (fun q => c2 (k2.mp q))]
    by_cases c3 : t = [3]
    · rw [if_pos (k3.mpr c3), c3]; rfl
    · rw [if_neg (fun q => c3 (k3.mp q))]
      by_cases c4 : t = [4]
      · rw [if_pos (k4.mpr c4), c4]; rfl
      · rw [if_neg (fun q => c4 (k4.mp q)), beq_eq_false_iff_ne.mpr c2, beq_eq_false_iff_ne.mpr c3, beq_eq_false_iff_ne.mpr c4]; rfl
section
variable {F n : Nat} {sh : Nat → Nat × Nat} {z z' : St} {ku f w ns : Nat} {ls : List Ty} {L : Lks} {U : Md}
/-- one row for giving, whether or not there was a fault -/
theorem RR.give (hF : 300 ≤ F) {r : Px Lks} (h : RR sh n z ku f ls ns r) {t : Ty} {x : Int64} (ht : ∀ M, r = .ok M → TBr ns t ∧ x = tL t) : ∃ z', fn_X13_give F sh n z 355 x = some (z', ()) ∧ RR sh n z' ku f ls ns (r >>= lPush (t, 0, false)) ∧ FrLk z z' := by
  cases r with
  | error w =>
    obtain ⟨w0, M, h⟩ := h
    exact ⟨z, h.give_e (by omega) x, ⟨w0, M, h⟩, FrLk.rfl'⟩
  | ok M =>
    obtain ⟨t1, t2⟩ := ht M rfl
    rw [t2]
    exact RK.giveP hF h t1
theorem RT.rr {r : Px (SS × Lks)} (h : RT sh n z ku f ls ns r) : RR sh n z ku f ls ns (r >>= fun q => .ok q.2) := by
  cases r with
  | error w => exact h
  | ok q => exact h.1
theorem RT.need {r : Px (SS × Lks)} (h : RT sh n z ku f ls ns r) (b : SS × Lks → Bool) {x : Int32} {v : Nat} (hv : v < 16) (h0 : 0 < v) (hx : ∀ q, r = .ok q → x = bI (b q)) (hx2 : ∀ w, r = .error w → x = 0 ∨ x = 1) : ∃ z', fn_X13_need F sh n z 355 x (nI v) = some (z', ()) ∧ RT sh n z' ku f ls ns (r >>= fun q => nd_ (b q) v >>= fun _ => .ok q) ∧ FrLk z z' := by
  cases r with
  | error w =>
    obtain ⟨w0, M, h⟩ := h
    have xb : ∃ c : Bool, x = bI c := by
      rcases hx2 w rfl with e | e
      · exact ⟨false, e⟩
      · exact ⟨true, e⟩
    obtain ⟨c, e⟩ := xb
    subst e
    obtain ⟨z', q1, q2, q3, q4⟩ := h.need (F := F) c hv h0
    rw [if_neg (by omega)] at q2
    exact ⟨z', q1, ⟨w0, M, q2⟩, q3⟩
  | ok q =>
    obtain ⟨k1, k2, k3⟩ := h
    rw [hx q rfl]
    obtain ⟨z', q1, q2, q3, q4⟩ := k1.need (F := F) (b q) hv h0
    rw [if_pos rfl] at q2
    refine ⟨z', q1, ?_, q3⟩
    rw [ok_b]
    cases e : b q with
    | false => rw [e] at q2; exact ⟨h0, _, q2⟩
    | true =>
      rw [e] at q2
      exact ⟨q2, ⟨by rw [q4.1]; exact k2.1, by rw [q4.2.1]; exact k2.2.1, by rw [q4.2.2]; exact k2.2.2⟩, k3⟩
/-- taking one more of the same type -/
theorem RT.same {r : Px (SS × Lks)} (h : RT sh n z ku f ls ns r) : ∃ z', fn_X13_take_ F sh n z 355 (z.2.1 355 19) = some (z', ()) ∧ RT sh n z' ku f ls ns (r >>= fun q => lTakeQ q.1.1 q.2) ∧ FrLk z z' := by
  cases r with
  | error w =>
    obtain ⟨w0, M, h⟩ := h
    exact ⟨z, h.takeT_e (by omega) _, ⟨w0, M, h⟩, FrLk.rfl'⟩
  | ok q =>
    obtain ⟨k1, k2, k3⟩ := h
    rw [k2.1]
    exact k1.takeTP k3.1
theorem RK.nums (hF : 300 ≤ F) (h : RK sh n z ku f ls ns 0 L) (tr : Bool) : ∃ z', fn_X13_takeNumbers F sh n z 355 (bI tr) = some (z', ()) ∧ RT sh n z' ku f ls ns (lTake L >>= fun q => nd_ (isN q.1.1 || (tr && q.1.1 == [1])) 3 >>= fun _ => lTakeQ q.1.1 q.2) ∧ FrLk z z' := by
  obtain ⟨z1, q1, q2, q3⟩ := h.takeP (F := F)
  unfold fn_X13_takeNumbers
  rw [h.o13, grd_true, q1, cal_s]
  cases r : lTake L with
  | error w =>
    rw [r] at q2
    obtain ⟨w0, M, q2⟩ := q2
    rw [if_neg (q2.ee w0)]
    exact ⟨z1, rfl, ⟨w0, M, q2⟩, q3⟩
  | ok q =>
    rw [r] at q2
    obtain ⟨k1, k2, k3⟩ := q2
    rw [if_pos k1.e0, k2.1, isNum_t k3.1, cal_s, ok_b]
    have rest : ∀ g g' : Bool, g' = g → ∃ z', cal (fn_X13_need F sh n z1 355 (bI g) 3) (fun z_9 _ => cal (fn_X13_take_ F sh n z_9 355 (z_9.2.1 355 19)) (fun z_11 _ => some (z_11, ()))) = some (z', ()) ∧ RT sh n z' ku f ls ns (nd_ g' 3 >>= fun _ => lTakeQ q.1.1 q.2) ∧ FrLk z z' := fun g g' eg => by
      subst eg
      have T : RT sh n z1 ku f ls ns (.ok q) := ⟨k1, k2, k3⟩
      obtain ⟨z2, p1, p2, p3⟩ := T.need (F := F) (fun _ => g') (v := 3) (by omega) (by omega) (fun _ _ => rfl) (fun _ e => by cases e)
      have p1' : fn_X13_need F sh n z1 355 (bI g') 3 = some (z2, ()) := p1
      rw [p1', cal_s]
      obtain ⟨z3, s1, s2, s3⟩ := p2.same (F := F)
      rw [s1, cal_s]
      refine ⟨z3, rfl, ?_, (q3.trans p3).trans s3⟩
      rw [ok_b] at s2
      cases g' <;> exact s2
    have z19 : z1.2.1 355 19 = tL q.1.1 := k2.1
    cases e : isN q.1.1 with
    | true =>
      rw [if_neg (show ¬ bI true = 0 from one0), Bool.true_or]
      exact rest true true rfl
    | false =>
      rw [if_pos (show bI false = 0 from rfl), Bool.false_or]
      cases tr with
      | false =>
        rw [if_pos (show bI false = 0 from rfl), Bool.false_and]
        exact rest false false rfl
      | true =>
        rw [if_neg (show ¬ bI true = 0 from one0), Bool.true_and]
        by_cases c : q.1.1 = [1]
        · rw [if_pos (by rw [z19, c]; rfl)]
          exact rest true _ (by rw [c]; rfl)
        · rw [if_neg (fun w => c ((k3.1.inj (TBk (by omega) (by omega))).mp (by rw [tLk, ← z19]; exact w)))]
          exact rest false _ (beq_eq_false_iff_ne.mpr c)
theorem lQ_ok {t : Ty} {M : Lks} {q : SS × Lks} (h : lTakeQ t M = .ok q) : q.1.1 = t := by
  unfold lTakeQ at h
  cases r : lTake M with
  | error w => rw [r] at h; cases h
  | ok q' =>
    rw [r, ok_b] at h
    cases e : (q'.1.1 == t) with
    | false => rw [e] at h; cases h
    | true =>
      rw [e] at h
      have : q' = q := by cases h; rfl
      rw [← this]; exact beq_iff_eq.mp e
theorem RT.give (hF : 300 ≤ F) {r : Px (SS × Lks)} (h : RT sh n z ku f ls ns r) : ∃ z', fn_X13_give F sh n z 355 (z.2.1 355 19) = some (z', ()) ∧ RR sh n z' ku f ls ns (r >>= fun q => lPush (q.1.1, 0, false) q.2) ∧ FrLk z z' := by
  cases r with
  | error w =>
    obtain ⟨w0, M, h⟩ := h
    exact ⟨z, h.give_e (by omega) _, ⟨w0, M, h⟩, FrLk.rfl'⟩
  | ok q =>
    obtain ⟨k1, k2, k3⟩ := h
    rw [k2.1]
    exact k1.giveP hF k3
theorem px_assoc {α β γ : Type} (r : Px α) (g : α → Px β) (k : β → Px γ) : (r >>= g) >>= k = r >>= fun a => g a >>= k := by cases r <;> rfl
theorem RK.onNumbers (hF : 300 ≤ F) (h : RK sh n z ku f ls U.1.2.2 0 L) (hu : ∀ z', FrLk z z' → UnL F sh n z' ku U) (hm : MdO U) {o : Nat} (o1 : 24 ≤ o) (o2 : o < 45) (o3 : o ≠ 35) : OpR sh n z ku f ls U.1.2.2 (fn_X13_onNumbers F sh n z 355 (nI o)) (aNum U o L) := by
  unfold fn_X13_onNumbers aNum
  by_cases c32 : o < 32
  · rw [if_neg (fun q => by have := (nIge (x := 32) 32 rfl (by omega) (by omega)).mp q; omega), if_pos c32]
    have key : ∀ tr : Bool, tr = decide (28 < o) → OpR sh n z ku f ls U.1.2.2 (grd (okO sh n 355 13) (cal (fn_X13_takeNumbers F sh n z 355 (bI tr)) (fun z_70 _ => cal (fn_X13_give F sh n z_70 355 (z_70.2.1 355 19)) (fun z_73 _ => some (z_73, ()))))) (lTake L >>= fun q => nd_ (isN q.1.1 || (decide (28 < o) && q.1.1 == [1])) 3 >>= fun _ => lTakeT q.1.1 q.2 >>= lPush (q.1.1, 0, false)) := fun tr etr => by
      obtain ⟨z1, q1, q2, q3⟩ := h.nums (F := F) hF tr
      rw [h.o13, grd_true, q1, cal_s]
      obtain ⟨z2, p1, p2, p3⟩ := q2.give (F := F) hF
      rw [p1, cal_s]
      refine ⟨z2, rfl, ?_, q3.trans p3⟩
      rw [← etr]
      have e : (lTake L >>= fun q => nd_ (isN q.1.1 || (tr && q.1.1 == [1])) 3 >>= fun _ => lTakeT q.1.1 q.2 >>= lPush (q.1.1, 0, false)) = ((lTake L >>= fun q => nd_ (isN q.1.1 || (tr && q.1.1 == [1])) 3 >>= fun _ => lTakeQ q.1.1 q.2) >>= fun q => lPush (q.1.1, 0, false) q.2) := by
        cases lTake L with
        | error w => rfl
        | ok q =>
          rw [ok_b, ok_b]
          cases nd_ (isN q.1.1 || (tr && q.1.1 == [1])) 3 with
          | error w => rfl
          | ok _ =>
            rw [ok_b, ok_b, lTakeT_q]
            cases r : lTakeQ q.1.1 q.2 with
            | error w => rfl
            | ok q' => rw [ok_b, ok_b, ok_b, lQ_ok r]
      rw [e]
      exact p2
    by_cases c28 : o ≤ 28
    · rw [if_pos ((nIle (x := 28) 28 rfl (by omega) (by omega)).mpr c28)]
      exact key false (decide_eq_false (by omega)).symm
    · rw [if_neg (fun q => c28 ((nIle (x := 28) 28 rfl (by omega) (by omega)).mp q))]
      exact key true (decide_eq_true (by omega)).symm
  · rw [if_pos ((nIge (x := 32) 32 rfl (by omega) (by omega)).mpr (by omega)), if_neg c32]
    by_cases c34 : o < 34
    · rw [if_neg (fun q => by have := (nIge (x := 34) 34 rfl (by omega) (by omega)).mp q; omega), if_pos c34]
      obtain ⟨z1, q1, q2, q3⟩ := h.takeTP (F := F) (t := [2]) (TBk (by omega) (by omega))
      have q1' : fn_X13_take_ F sh n z 355 2 = some (z1, ()) := by rw [← q1, tLk]; rfl
      rw [h.o13, grd_true, q1', cal_s, lTakeT_q]
      cases r : lTakeQ [2] L with
      | error w =>
        rw [r] at q2
        obtain ⟨w0, M, q2⟩ := q2
        rw [q2.take_e (by omega), cal_s, if_neg (q2.ee w0), q2.give_e (by omega), cal_s]
        exact ⟨z1, rfl, ⟨w0, M, q2⟩, q3⟩
      | ok q =>
        rw [r] at q2
        obtain ⟨k1, k2, k3⟩ := q2
        rw [ok_b, ok_b]
        obtain ⟨z2, p1, p2, p3⟩ := k1.takeP (F := F)
        rw [p1, cal_s]
        cases r2 : lTake q.2 with
        | error w =>
          rw [r2] at p2
          obtain ⟨w0, M, p2⟩ := p2
          rw [if_neg (p2.ee w0), p2.give_e (by omega), cal_s]
          exact ⟨z2, rfl, ⟨w0, M, p2⟩, q3.trans p3⟩
        | ok q' =>
          rw [r2] at p2
          rw [if_pos p2.1.e0, p2.2.1.1, isNum_t p2.2.2.1, cal_s]
          obtain ⟨z3, s1, s2, s3⟩ := p2.need (F := F) (fun q => isN q.1.1) (x := bI (isN q'.1.1)) (v := 3) (by omega) (by omega) (fun _ e => by cases e; rfl) (fun _ e => by cases e)
          have s1' : fn_X13_need F sh n z2 355 (bI (isN q'.1.1)) 3 = some (z3, ()) := s1
          rw [s1', cal_s]
          obtain ⟨z4, u1, u2, u3⟩ := s2.give (F := F) hF
          rw [u1, cal_s]
          refine ⟨z4, rfl, ?_, ((q3.trans p3).trans s3).trans u3⟩
          rw [ok_b] at u2 ⊢
          cases e : isN q'.1.1 <;> rw [e] at u2 <;> exact u2
    · rw [if_pos ((nIge (x := 34) 34 rfl (by omega) (by omega)).mpr (by omega)), if_neg c34]
      by_cases e34 : o = 34
      · subst e34
        rw [if_pos (by rfl), if_pos rfl]
        obtain ⟨z1, q1, q2, q3⟩ := h.takeTP (F := F) (t := [1]) (TBk (by omega) (by omega))
        have q1' : fn_X13_take_ F sh n z 355 1 = some (z1, ()) := by rw [← q1, tLk]; rfl
        rw [h.o13, grd_true, q1', cal_s, lTakeT_q]
        obtain ⟨z2, p1, p2, p3⟩ := q2.rr.give (F := F) hF (t := [1]) (x := 1) (fun _ _ => ⟨TBrk (by omega) (by omega), by rw [tLk]; rfl⟩)
        rw [p1, cal_s]
        exact ⟨z2, rfl, p2, q3.trans p3⟩
      · rw [if_neg (fun q => e34 ((nIe (x := 34) 34 rfl (by omega) (by omega)).mp q)), if_neg e34]
        by_cases c38 : o < 38
        · rw [if_neg (fun q => by have := (nIge (x := 38) 38 rfl (by omega) (by omega)).mp q; omega), if_pos c38]
          obtain ⟨z1, q1, q2, q3⟩ := h.takeP (F := F)
          rw [h.o13, grd_true, q1, cal_s]
          have b135 : ∀ (r : Px (SS × Lks)) z1, RT sh n z1 ku f ls U.1.2.2 r → FrLk z z1 → OpR sh n z ku f ls U.1.2.2 (fn_X13_onNumbers_B135 F sh n 355 z1) (r >>= fun q => lTakeQ q.1.1 q.2 >>= fun q' => nd_ (hasD U q.1.1) 4 >>= fun _ => lPush ([1], 0, false) q'.2) := fun r z1 T fz => by
            obtain ⟨z2, s1, s2, s3⟩ := T.same (F := F)
            unfold fn_X13_onNumbers_B135
            rw [s1, cal_s]
            have ea : (r >>= fun q => lTakeQ q.1.1 q.2 >>= fun q' => nd_ (hasD U q.1.1) 4 >>= fun _ => lPush ([1], 0, false) q'.2) = ((r >>= fun q => lTakeQ q.1.1 q.2) >>= fun q' => nd_ (hasD U q'.1.1) 4 >>= fun _ => lPush ([1], 0, false) q'.2) := by
              cases r with
              | error w => rfl
              | ok q =>
                rw [ok_b, ok_b]
                cases r2 : lTakeQ q.1.1 q.2 with
                | error w => rfl
                | ok q' => rw [ok_b, ok_b, lQ_ok r2]
            rw [ea]
            cases r2 : (r >>= fun q => lTakeQ q.1.1 q.2) with
            | error w =>
              rw [r2] at s2
              obtain ⟨w0, M, s2⟩ := s2
              rw [if_neg (s2.ee w0), s2.give_e (by omega), cal_s]
              exact ⟨z2, rfl, ⟨w0, M, s2⟩, fz.trans s3⟩
            | ok q' =>
              rw [r2] at s2
              rw [if_pos s2.1.e0, s2.2.1.1, (s2.1.has hF (hu z2 (fz.trans s3)) hm s2.2.2).2.1, cal_s]
              obtain ⟨z3, u1, u2, u3⟩ := s2.need (F := F) (fun q => hasD U q.1.1) (x := bI (hasD U q'.1.1)) (v := 4) (by omega) (by omega) (fun _ e => by cases e; rfl) (fun _ e => by cases e)
              have u1' : fn_X13_need F sh n z2 355 (bI (hasD U q'.1.1)) 4 = some (z3, ()) := u1
              rw [u1', cal_s]
              obtain ⟨z4, v1, v2, v3⟩ := u2.rr.give (F := F) hF (t := [1]) (x := 1) (fun _ _ => ⟨TBrk (by omega) (by omega), by rw [tLk]; rfl⟩)
              rw [v1, cal_s]
              refine ⟨z4, rfl, ?_, ((fz.trans s3).trans u3).trans v3⟩
              rw [ok_b] at v2 ⊢
              cases e : hasD U q'.1.1 <;> rw [e] at v2 <;> exact v2
          have fin : ∀ r : Px (SS × Lks), (r >>= fun q => nd_ (!isR q.1.1) 3 >>= fun _ => lTakeT q.1.1 q.2 >>= fun M => nd_ (hasD U q.1.1) 4 >>= fun _ => lPush ([1], 0, false) M) = ((r >>= fun q => nd_ (!isR q.1.1) 3 >>= fun _ => .ok q) >>= fun q => lTakeQ q.1.1 q.2 >>= fun q' => nd_ (hasD U q.1.1) 4 >>= fun _ => lPush ([1], 0, false) q'.2) := fun r => by
            cases r with
            | error w => rfl
            | ok q =>
              rw [ok_b, ok_b]
              cases nd_ (!isR q.1.1) 3 with
              | error w => rfl
              | ok _ =>
                rw [ok_b, ok_b, ok_b, lTakeT_q]
                cases lTakeQ q.1.1 q.2 <;> rfl
          rw [fin]
          cases r : lTake L with
          | error w =>
            rw [r] at q2
            obtain ⟨w0, M, q2⟩ := q2
            rw [if_neg (q2.ee w0)]
            exact b135 (.error w) z1 ⟨w0, M, q2⟩ q3
          | ok q =>
            rw [r] at q2
            rw [if_pos q2.1.e0, q2.2.1.1, isRefR_t hF q2.2.2.1, cal_s]
            have nd : ∀ g : Bool, g = (!isR q.1.1) → OpR sh n z ku f ls U.1.2.2 (fn_X13_onNumbers_B131 F sh n 355 z1 (bI g)) (((.ok q : Px (SS × Lks)) >>= fun q => nd_ (!isR q.1.1) 3 >>= fun _ => .ok q) >>= fun q => lTakeQ q.1.1 q.2 >>= fun q' => nd_ (hasD U q.1.1) 4 >>= fun _ => lPush ([1], 0, false) q'.2) := fun g eg => by
              obtain ⟨z2, s1, s2, s3⟩ := q2.need (F := F) (fun q => !isR q.1.1) (x := bI g) (v := 3) (by omega) (by omega) (fun _ e => by cases e; rw [eg]) (fun _ e => by cases e)
              unfold fn_X13_onNumbers_B131
              have s1' : fn_X13_need F sh n z1 355 (bI g) 3 = some (z2, ()) := s1
              rw [s1', cal_s]
              exact b135 _ z2 s2 (q3.trans s3)
            cases e : isR q.1.1 with
            | false => rw [if_pos (show bI false = 0 from rfl)]; exact nd true (by rw [e]; rfl)
            | true => rw [if_neg (show ¬ bI true = 0 from one0)]; exact nd false (by rw [e]; rfl)
        · rw [if_pos ((nIge (x := 38) 38 rfl (by omega) (by omega)).mpr (by omega)), if_neg c38]
          by_cases c42 : o < 42
          · rw [if_neg (fun q => by have := (nIge (x := 42) 42 rfl (by omega) (by omega)).mp q; omega), if_pos c42]
            obtain ⟨z1, q1, q2, q3⟩ := h.nums (F := F) hF false
            have q1' : fn_X13_takeNumbers F sh n z 355 0 = some (z1, ()) := q1
            rw [h.o13, grd_true, q1', cal_s]
            obtain ⟨z2, p1, p2, p3⟩ := q2.rr.give (F := F) hF (t := [1]) (x := 1) (fun _ _ => ⟨TBrk (by omega) (by omega), by rw [tLk]; rfl⟩)
            rw [p1, cal_s]
            refine ⟨z2, rfl, ?_, q3.trans p3⟩
            have e : (lTake L >>= fun q => nd_ (isN q.1.1) 3 >>= fun _ => lTakeT q.1.1 q.2 >>= lPush ([1], 0, false)) = ((lTake L >>= fun q => nd_ (isN q.1.1 || (false && q.1.1 == [1])) 3 >>= fun _ => lTakeQ q.1.1 q.2) >>= fun q => .ok q.2) >>= lPush ([1], 0, false) := by
              cases lTake L with
              | error w => rfl
              | ok q =>
                rw [ok_b, ok_b, Bool.false_and, Bool.or_false]
                cases nd_ (isN q.1.1) 3 with
                | error w => rfl
                | ok _ => rw [ok_b, ok_b, lTakeT_q]
            rw [e]
            exact p2
          · rw [if_pos ((nIge (x := 42) 42 rfl (by omega) (by omega)).mpr (by omega)), if_neg c42]
            have e40 : (nI o).toInt64 - 40 = tL [o - 40] := by
              rw [tLk, nI_l (by omega)]
              have : o = 42 ∨ o = 43 ∨ o = 44 := by omega
              rcases this with e | e | e <;> subst e <;> rfl
            obtain ⟨z1, q1, q2, q3⟩ := h.takeP (F := F)
            rw [h.o13, grd_true, q1, cal_s, e40]
            cases r : lTake L with
            | error w =>
              rw [r] at q2
              obtain ⟨w0, M, q2⟩ := q2
              rw [if_neg (q2.ee w0), q2.give_e (by omega), cal_s]
              exact ⟨z1, rfl, ⟨w0, M, q2⟩, q3⟩
            | ok q =>
              rw [r] at q2
              rw [if_pos q2.1.e0, q2.2.1.1, isNum_t q2.2.2.1, cal_s]
              obtain ⟨z3, s1, s2, s3⟩ := q2.need (F := F) (fun q => isN q.1.1) (x := bI (isN q.1.1)) (v := 3) (by omega) (by omega) (fun _ e => by cases e; rfl) (fun _ e => by cases e)
              have s1' : fn_X13_need F sh n z1 355 (bI (isN q.1.1)) 3 = some (z3, ()) := s1
              rw [s1', cal_s]
              obtain ⟨z4, u1, u2, u3⟩ := s2.rr.give (F := F) hF (t := [o - 40]) (x := tL [o - 40]) (fun _ _ => ⟨TBrk (by omega) (by omega), rfl⟩)
              rw [u1, cal_s]
              refine ⟨z4, rfl, ?_, (q3.trans s3).trans u3⟩
              rw [ok_b] at u2 ⊢
              cases e : isN q.1.1 <;> rw [e] at u2 <;> exact u2
end
