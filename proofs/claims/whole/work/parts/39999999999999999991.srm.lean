/-! THE CLASS'S READER: what is judged as it is read -/
section
variable {F n : Nat} {sh : Nat → Nat × Nat} {z z' : St} {kp kb len : Nat} {b : Nat → Nat} {J : Bool} {r : Ex Nat} {ks js hs : List Nat} {Jo : Option JI}
theorem bI_so : bI true ≠ 0 := by decide
theorem KX.judged (h : KX sh n z kp kb b len J r) (ej : Jo.isSome = J) {bd : JI → Nat} {w : Nat} {x0 x1 : Int32} (hb : ∀ j p, Jo = some j → r = .ok p → x0 = nI (bd j) ∧ bd j < 2 ^ 20) (e1 : x1 = nI w) (h0 : 0 < w) (h16 : w < 16) : ∃ z', fn_X6_readJudged F sh n z 60 x0 x1 = some (z', nI (vN (r >>= rBy b len))) ∧ KX sh n z' kp kb b len J (cu (r >>= fun p => rBy b len p >>= fun a => jd Jo (fun j => if bd j ≤ a.1 then some (w, p) else none) (.ok a))) ∧ FC kp z z' := by
  subst e1
  obtain ⟨z1, q1, q2, q3⟩ := h.byte (F := F)
  have l1 := vN_lt h
  unfold fn_X6_readJudged
  rw [h.1.o, grd_true, lt_t, q1, cal_s, q2.1.2.2.2.2.2.2.2.2]
  cases r with
  | error e =>
    have q2' : KX sh n z1 kp kb b len J (.error e) := q2
    refine ⟨z1, ?_, q2, q3⟩
    rw [q2'.fail_e, cal_s]
    split
    · rfl
    · split <;> rfl
  | ok p =>
    rw [ok_bq] at q2 l1 ⊢
    rw [ok_bq]
    cases e : rBy b len p with
    | error w' =>
      rw [e] at q2
      have q2' : KX sh n z1 kp kb b len J (.error w') := q2
      refine ⟨z1, ?_, q2, q3⟩
      rw [q2'.fail_e, cal_s]
      split
      · rfl
      · split <;> rfl
    | ok q =>
      obtain ⟨c1, c2⟩ := rBy_ok e
      subst c2
      rw [e] at q2 l1
      have l1' : b p < 256 := l1
      have q2' : KX sh n z1 kp kb b len J (.ok (p + 1)) := q2
      show ∃ z', (if bI J = 0 then some (z1, nI (b p)) else if nI (b p) < x0 then some (z1, nI (b p)) else cal (fn_X6_fail F sh n z1 60 (nI w) (z.1 60 3)) (fun z_8 _ => some (z_8, nI (b p)))) = some (z', nI (b p)) ∧ KX sh n z' kp kb b len J (cu (jd Jo (fun j => if bd j ≤ b p then some (w, p) else none) (.ok (b p, p + 1)))) ∧ _
      cases Jo with
      | none =>
        have : J = false := ej.symm
        subst this
        rw [if_pos (show bI false = 0 from rfl)]
        exact ⟨z1, rfl, q2', q3⟩
      | some j =>
        have : J = true := ej.symm
        subst this
        obtain ⟨b1, b2⟩ := hb j p rfl rfl
        rw [if_neg bI_so, b1, jd_s]
        by_cases c : bd j ≤ b p
        · obtain ⟨z2, s1, s2, s3⟩ := q2'.fail (F := F) (w := w) (f := fun _ => p) (iw := nI w) (x := z.1 60 3) rfl (fun _ _ => h.2.1) h0 h16
          rw [if_neg (fun x => by have := (nI_ltI (by omega) (by omega)).mp x; omega), s1, cal_s, if_pos c]
          exact ⟨z2, rfl, s2, q3.trans s3⟩
        · rw [if_pos ((nI_ltI (by omega) (by omega)).mpr (by omega)), if_neg c]
          exact ⟨z1, rfl, q2', q3⟩
theorem KX.own (h : KX sh n z kp kb b len J r) (ej : Jo.isSome = J) (hj : ∀ j, Jo = some j → z.1 kp 8 = nI j.1 ∧ z.1 kp 9 = nI j.2.1 ∧ j.1 < 256 ∧ j.2.1 < 256) : ∃ z', fn_X6_readOwnStructure F sh n z 60 = some (z', nI (vN (r >>= rBy b len))) ∧ KX sh n z' kp kb b len J (cu (r >>= gOwn b len Jo)) ∧ FC kp z z' := by
  obtain ⟨z1, q1, q2, q3⟩ := h.judged (F := F) ej (bd := fun j => j.2.1) (w := 7) (x0 := z.1 kp 9) (x1 := 7) (fun j p e _ => ⟨(hj j e).2.1, by have := (hj j e).2.2.2; show j.2.1 < _; omega⟩) rfl (by omega) (by omega)
  have l1 := vN_lt h
  unfold fn_X6_readOwnStructure
  rw [h.1.o, grd_true, lt_t, h.1.2.2.1, lnk_s, h.1.p, grd_true, q1, cal_s, q2.1.2.2.2.2.2.2.2.2, q2.1.2.2.1, lnk_s, h.1.p, grd_true]
  cases Jo with
  | none =>
    have : J = false := ej.symm
    subst this
    rw [if_pos (show bI false = 0 from rfl)]
    refine ⟨z1, rfl, ?_, q3⟩
    cases r with
    | error e => exact q2
    | ok p => exact q2
  | some j =>
    have : J = true := ej.symm
    subst this
    obtain ⟨j1, j2, j3, j4⟩ := hj j rfl
    rw [if_neg bI_so, q3.2.2.2.1 8 (by simp), j1]
    cases r with
    | error e =>
      have q2' : KX sh n z1 kp kb b len true (.error e) := q2
      refine ⟨z1, ?_, q2, q3⟩
      rw [q2'.fail_e, cal_s]
      split <;> rfl
    | ok p =>
      rw [ok_bq] at q2 l1 ⊢
      rw [ok_bq]
      unfold gOwn
      cases e : rBy b len p with
      | error w' =>
        rw [e] at q2
        have q2' : KX sh n z1 kp kb b len true (.error w') := q2
        refine ⟨z1, ?_, q2, q3⟩
        rw [q2'.fail_e, cal_s]
        split <;> rfl
      | ok q =>
        obtain ⟨c1, c2⟩ := rBy_ok e
        subst c2
        rw [e, ok_bq, jd_s] at q2
        rw [e] at l1
        have l1' : b p < 256 := l1
        have q2' : KX sh n z1 kp kb b len true (cu (jg (if j.2.1 ≤ b p then some (7, p) else none) (.ok (b p, p + 1)))) := q2
        rw [ok_bq, jd_s]
        unfold jOwn
        show ∃ z', (if nI (b p) < nI j.1 then some (z1, nI (b p)) else cal (fn_X6_fail F sh n z1 60 8 (z.1 60 3)) (fun z_12 _ => some (z_12, nI (b p)))) = some (z', nI (b p)) ∧ KX sh n z' kp kb b len true (cu (jg (if j.2.1 ≤ b p then some (7, p) else if j.1 ≤ b p then some (8, p) else none) (.ok (b p, p + 1)))) ∧ _
        by_cases c : j.2.1 ≤ b p
        · rw [if_pos c] at q2' ⊢
          have q2e : KX sh n z1 kp kb b len true (.error (7, p)) := q2'
          refine ⟨z1, ?_, q2e, q3⟩
          rw [q2e.fail_e, cal_s]
          split <;> rfl
        · rw [if_neg c] at q2' ⊢
          have q2o : KX sh n z1 kp kb b len true (.ok (p + 1)) := q2'
          by_cases d : j.1 ≤ b p
          · obtain ⟨z2, s1, s2, s3⟩ := q2o.fail (F := F) (w := 8) (f := fun _ => p) (iw := 8) (x := z.1 60 3) rfl (fun _ _ => h.2.1) (by omega) (by omega)
            rw [if_neg (fun x => by have := (nI_ltI (by omega) (by omega)).mp x; omega), s1, cal_s, if_pos d]
            exact ⟨z2, rfl, s2, q3.trans s3⟩
          · rw [if_pos ((nI_ltI (by omega) (by omega)).mpr (by omega)), if_neg d]
            exact ⟨z1, rfl, q2o, q3⟩
theorem sk_s (m p : Nat) : sk len (m + 1) p = (rBy b len p >>= fun a => sk len m a.2) := by
  unfold sk rBy
  by_cases c : p < len
  · rw [if_pos c, ok_bq]
    show _ = (if p + 1 + m ≤ len then Except.ok ((), p + 1 + m) else .error (2, len))
    rw [show p + (m + 1) = p + 1 + m by omega]
  · rw [if_neg c, if_neg (by omega)]; rfl
theorem KX.pass {cnt : Nat} (hc : cnt < 256) : ∀ m i g z r, i + m = cnt → m < g → KX sh n z kp kb b len J r → ∃ z', fn_X6_pass_L2 F sh n (nI cnt) 60 g z (nI i) = some (z', ()) ∧ KX sh n z' kp kb b len J (cu (r >>= sk len m)) ∧ FC kp z z' := by
  intro m
  induction m with
  | zero =>
    intro i g z r ei hg h
    obtain ⟨g, rfl⟩ : ∃ q, g = q + 1 := ⟨g - 1, by omega⟩
    unfold fn_X6_pass_L2
    rw [if_pos ((nI_leI (by omega) (by omega)).mpr (by omega))]
    refine ⟨z, rfl, ?_, FrKd.rfl'⟩
    cases r with
    | error e => exact h
    | ok p =>
      rw [ok_bq]
      unfold sk
      rw [if_pos (by have := h.2.2.1; omega)]
      exact h
  | succ m ih =>
    intro i g z r ei hg h
    obtain ⟨g, rfl⟩ : ∃ q, g = q + 1 := ⟨g - 1, by omega⟩
    unfold fn_X6_pass_L2
    rw [if_neg (fun y => by have := (nI_leI (by omega) (by omega)).mp y; omega), h.1.o, grd_true]
    cases r with
    | error e =>
      rw [if_neg h.ne0]
      exact ⟨z, rfl, h, FrKd.rfl'⟩
    | ok p =>
      obtain ⟨z1, q1, q2, q3⟩ := h.byte (F := F)
      rw [if_pos h.is0, q1, cal_s, nI_1]
      obtain ⟨z2, s1, s2, s3⟩ := ih (i + 1) g z1 _ (by omega) (by omega) q2
      refine ⟨z2, s1, ?_, q3.trans s3⟩
      rw [ok_bq] at s2 ⊢
      rw [sk_s (b := b)]
      cases e : rBy b len p with
      | error w => rw [e] at s2; exact s2
      | ok q => rw [e] at s2; exact s2
/-- where instructions begin -/
def SrT (z : St) (kp : Nat) (S : List Nat) : Prop := z.1 kp 6 = nI S.length ∧ ∀ j, j < S.length → z.1 (kp + 2) j = nI (S.getD j 0)
theorem KB.addStart (h : KB sh n z kp kb b len J) {S : List Nat} (T : SrT z kp S) (hc : S.length < 2048) (p : Nat) : ∃ z', fn_X5_addStart F sh n z kp (nI p) = some (z', ()) ∧ FrKd kp [kp + 2] [6] [] z z' ∧ SrT z' kp (S ++ [p]) := by
  obtain ⟨a0, a1, a2, a3, a4, a5, a6, a7, a8⟩ := b_prog h.1 h.2.1
  have pn := isP_ne h.2.1
  have s1 : sh (kp + 2) = (101, 2048) := by
    obtain ⟨i, hi, rfl⟩ := h.2.1
    rw [h.1.2.1 _ (by omega)]; exact b_prog_s2 i hi
  have o1 : okO sh n (kp + 2) 101 = true := lay_o h.1 (kp + 2) 101 2048 (by omega) (by rw [← h.1.2.1 _ (by omega)]; exact s1)
  unfold fn_X5_addStart
  rw [a0, grd_true, a2, lnk_s, o1, grd_true, s1, T.1, lnk_s, lt_t, nI_1, lt_t, a6, lt_t]
  show ∃ z', (if nI 2048 ≤ nI S.length then _ else _) = _ ∧ _
  rw [if_neg (fun y => by have := (nI_leI (by omega) (by omega)).mp y; omega), okI_nI hc (by omega), grd_true, nI_clamp (by omega)]
  refine ⟨_, rfl, (FrKd.siP h.ne (by simp)).trans (FrKd.siK (by omega) (by omega) (by simp)), ?_, ?_⟩
  · rw [si_ok (by omega), si_ss, List.length_append]; rfl
  · intro j hj
    rw [List.length_append] at hj
    have hj' : j < S.length + 1 := hj
    by_cases c : j = S.length
    · subst c
      rw [si_ss, getD_e]
    · rw [si_oj c, si_ok (by omega), T.2 j (by omega), getD_l (by omega)]
theorem KB.fieldCount (h : KB sh n z kp kb b len J) {a s : Nat} (e9 : z.1 kp 9 = nI a) (ha : a ≤ 64) (hs : s < 256) : fn_X5_fieldCount F sh n z kp (nI s) = some (z, if s < a then z.1 (kp + 3) (7 * s + 3) else 0) := by
  obtain ⟨a0, a1, a2, a3, a4, a5, a6, a7, a8⟩ := b_prog h.1 h.2.1
  unfold fn_X5_fieldCount fn_X5_structureColumn
  rw [a0, grd_true, if_neg (fun y => by have := (nIlt (x := 0) 0 rfl (by omega) (by omega)).mp y; omega), grd_true, e9]
  by_cases c : s < a
  · have ei : nI s * 7 + 3 = nI (7 * s + 3) := by
      rw [show (7 : Int32) = nI 7 from rfl, pk_mul, show (3 : Int32) = nI 3 from rfl, nI_add, Nat.mul_comm]
    rw [if_pos ((nI_ltI (by omega) (by omega)).mpr c), a3, lnk_s, ei, a7, okI_nI (by omega) (by omega), grd_true, nI_clamp (by omega), cal_s, if_pos c]
  · rw [if_neg (fun y => c ((nI_ltI (by omega) (by omega)).mp y)), cal_s, if_neg c]
end
