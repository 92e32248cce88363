/-! A MODULE AS BYTES: instructions; THE REFERENCE'S UNIT: instructions -/
def opB (o : Nat) : Nat := if o = 5 ∨ (10 < o ∧ o < 16) ∨ (20 < o ∧ o < 24) ∨ (46 < o ∧ o < 52) ∨ (52 < o ∧ o < 59) then 1 else if o = 16 ∨ o = 17 ∨ o = 52 ∨ (1 < o ∧ o < 5) then 2 else if o = 6 ∨ o = 10 then 8 else if o = 7 then 16 else 0
def pI1 (b : Nat → Nat) (len p : Nat) : Ex (Unit × Nat) := rBy b len p >>= fun o => if 59 < o.1 then .error (5, p) else if o.1 = 52 then rBy b len o.2 >>= fun a => rN b len 0 64 a.2 >>= fun c => .ok ((), c.2) else sk len (opB o.1) o.2
def pIs (b : Nat → Nat) (len : Nat) : Nat → Nat → Ex (List Nat × Nat)
  | 0, p => .ok ([], p)
  | k + 1, p => pI1 b len p >>= fun q => pIs b len k q.2 >>= fun r => .ok (p :: r.1, r.2)
/-- a function: where, flags, what it takes, gives, further locals; where its instructions are -/
abbrev GP : Type := Nat × Nat × List Ty × List Ty × List Ty × List Nat
def pF (b : Nat → Nat) (len tot p : Nat) : Ex (GP × Nat) := rN b len 0 7 p >>= fun a => pLs b len none 8 a.2 >>= fun t => pLs b len none 8 t.2 >>= fun g => pLs b len none 32 g.2 >>= fun l => sk len 2 l.2 >>= fun s => if 256 * b l.2 + b (l.2 + 1) < 1 ∨ 1024 < 256 * b l.2 + b (l.2 + 1) ∨ 8192 < tot + (256 * b l.2 + b (l.2 + 1)) then .error (3, l.2) else pIs b len (256 * b l.2 + b (l.2 + 1)) s.2 >>= fun c => .ok ((p, a.1, t.1, g.1, l.1, c.1), c.2)
def FrOw (ku : Nat) (ks js : List Nat) (z z' : St) : Prop := z'.2 = z.2 ∧ (∀ k, k ≠ ku → k ∉ ks → z'.1 k = z.1 k) ∧ ∀ j, j ∉ js → z'.1 ku j = z.1 ku j
theorem FrOw.rfl' {ku : Nat} {ks js : List Nat} {z : St} : FrOw ku ks js z z := ⟨rfl, fun _ _ _ => rfl, fun _ _ => rfl⟩
theorem FrOw.trans {ku : Nat} {ks js : List Nat} {z z' z'' : St} (f : FrOw ku ks js z z') (g : FrOw ku ks js z' z'') : FrOw ku ks js z z'' := ⟨g.1.trans f.1, fun k a b => (g.2.1 k a b).trans (f.2.1 k a b), fun j a => (g.2.2 j a).trans (f.2.2 j a)⟩
theorem FrOw.mono {ku : Nat} {ks js ks' js' : List Nat} {z z' : St} (f : FrOw ku ks js z z') (h1 : ∀ k, k ∈ ks → k ∈ ks') (h2 : ∀ j, j ∈ js → j ∈ js') : FrOw ku ks' js' z z' := ⟨f.1, fun k a b => f.2.1 k a (fun q => b (h1 k q)), fun j a => f.2.2 j (fun q => a (h2 j q))⟩
theorem FrCu.w {ku : Nat} {ks js : List Nat} {z z' : St} (f : FrCu ku z z') (h2 : 2 ∈ js ∧ 3 ∈ js ∧ 4 ∈ js) : FrOw ku ks js z z' := ⟨f.1, fun k a _ => f.2.1 k a, fun j a => f.2.2 j (fun q => a (by rw [q]; exact h2.1)) (fun q => a (by rw [q]; exact h2.2.1)) (fun q => a (by rw [q]; exact h2.2.2))⟩
theorem FrOw.si {ku : Nat} {ks js : List Nat} {z : St} {k j : Nat} {v : Int32} (h : (k = ku ∧ j ∈ js) ∨ (k ≠ ku ∧ k ∈ ks)) : FrOw ku ks js z (si z k j v) := ⟨rfl, fun i a b => by
  funext l
  rw [si_ok]
  intro e; rcases h with ⟨h1, _⟩ | ⟨_, h2⟩
  · exact a (by omega)
  · exact b (by rw [e]; exact h2), fun i a => by
  rcases h with ⟨h1, h2⟩ | ⟨h1, _⟩
  · subst h1; rw [si_oj (fun q => a (by rw [q]; exact h2))]
  · rw [si_ok (fun q => h1 q.symm)]⟩
/-- where instructions are, so far -/
def TI (z : St) (ku : Nat) (cs : List Nat) : Prop := z.1 ku 10 = nI cs.length ∧ ∀ j, j < cs.length → z.1 (ku + 7) j = nI (cs.getD j 0)
section
variable {F n : Nat} {sh : Nat → Nat × Nat} {z z' : St} {ku len p : Nat} {b : Nat → Nat}
theorem sk_ok {k : Nat} {q : Unit × Nat} (h : sk len k p = .ok q) : p + k ≤ len ∧ q.2 = p + k := by
  unfold sk at h
  by_cases c : p + k ≤ len
  · rw [if_pos c] at h; cases h; exact ⟨c, rfl⟩
  · rw [if_neg c] at h; cases h
theorem pI1_ok {q : Unit × Nat} (h : pI1 b len p = .ok q) : p < q.2 ∧ q.2 ≤ len ∧ b p ≤ 59 := by
  unfold pI1 at h
  cases e : rBy b len p with
  | error x => rw [e] at h; cases h
  | ok x =>
    obtain ⟨e1, e2⟩ := rBy_ok e
    subst e2
    rw [e, ok_bq] at h
    have h' : (if 59 < b p then .error (5, p) else if b p = 52 then rBy b len (p + 1) >>= fun a => rN b len 0 64 a.2 >>= fun c => .ok ((), c.2) else sk len (opB (b p)) (p + 1) : Ex (Unit × Nat)) = .ok q := h
    by_cases c : 59 < b p
    · rw [if_pos c] at h'; cases h'
    · rw [if_neg c] at h'
      by_cases d : b p = 52
      · rw [if_pos d] at h'
        cases e3 : rBy b len (p + 1) with
        | error x => rw [e3] at h'; cases h'
        | ok x =>
          obtain ⟨e4, e5⟩ := rBy_ok e3
          subst e5
          rw [e3, ok_bq] at h'
          cases e6 : rN b len 0 64 (p + 1 + 1) with
          | error x => rw [e6] at h'; cases h'
          | ok x =>
            obtain ⟨_, _, _, l4, l5⟩ := rN_le e6
            rw [e6] at h'
            cases h'
            exact ⟨by show p < x.2; omega, by show x.2 ≤ len; omega, by omega⟩
      · rw [if_neg d] at h'
        obtain ⟨s1, s2⟩ := sk_ok h'
        exact ⟨by omega, by omega, by omega⟩
theorem opB_t {o : Nat} (ho : o < 256) : fn_X16_operandBytes F sh n z (nI o) = some (z, nI (opB o)) := by
  have E : ∀ (m : Nat) (x : Int32), x = nI m → m < 100 → (nI o = x ↔ o = m) := fun m x e hm => nIe m e (by omega) (by omega)
  have b85 : (¬ (o = 5 ∨ (10 < o ∧ o < 16) ∨ (20 < o ∧ o < 24) ∨ (46 < o ∧ o < 52) ∨ (52 < o ∧ o < 59))) → ¬ (o = 16 ∨ o = 17 ∨ o = 52 ∨ (1 < o ∧ o < 5)) → fn_X16_operandBytes_B85 F sh n (nI o) z = some (z, nI (opB o)) := fun h1 h2 => by
    unfold fn_X16_operandBytes_B85 opB
    rw [if_neg h1, if_neg h2]
    by_cases c6 : o = 6
    · rw [if_pos ((E 6 6 rfl (by omega)).mpr c6), if_pos (.inl c6)]; rfl
    rw [if_neg (fun q => c6 ((E 6 6 rfl (by omega)).mp q))]
    by_cases c10 : o = 10
    · rw [if_pos ((E 10 10 rfl (by omega)).mpr c10), if_pos (.inr c10)]; rfl
    rw [if_neg (fun q => c10 ((E 10 10 rfl (by omega)).mp q)), if_neg (show ¬ (o = 6 ∨ o = 10) by omega)]
    by_cases c7 : o = 7
    · rw [if_pos ((E 7 7 rfl (by omega)).mpr c7), if_pos c7]; rfl
    · rw [if_neg (fun q => c7 ((E 7 7 rfl (by omega)).mp q)), if_neg c7]; rfl
  have b55 : (¬ (o = 5 ∨ (10 < o ∧ o < 16) ∨ (20 < o ∧ o < 24) ∨ (46 < o ∧ o < 52) ∨ (52 < o ∧ o < 59))) → fn_X16_operandBytes_B55 F sh n (nI o) z = some (z, nI (opB o)) := fun h1 => by
    have two : (o = 16 ∨ o = 17 ∨ o = 52 ∨ (1 < o ∧ o < 5)) → opB o = 2 := fun h => by unfold opB; rw [if_neg h1, if_pos h]
    unfold fn_X16_operandBytes_B55
    by_cases c1 : o = 16
    · rw [if_pos ((E 16 16 rfl (by omega)).mpr c1), two (by omega)]; rfl
    rw [if_neg (fun q => c1 ((E 16 16 rfl (by omega)).mp q))]
    by_cases c2 : o = 17
    · rw [if_pos ((E 17 17 rfl (by omega)).mpr c2), two (by omega)]; rfl
    rw [if_neg (fun q => c2 ((E 17 17 rfl (by omega)).mp q))]
    by_cases c3 : o = 52
    · rw [if_pos ((E 52 52 rfl (by omega)).mpr c3), two (by omega)]; rfl
    rw [if_neg (fun q => c3 ((E 52 52 rfl (by omega)).mp q))]
    by_cases c4 : o ≤ 1
    · rw [if_pos ((nIle (x := 1) 1 rfl (by omega) (by omega)).mpr c4)]; exact b85 h1 (by omega)
    rw [if_neg (fun q => c4 ((nIle (x := 1) 1 rfl (by omega) (by omega)).mp q))]
    by_cases c5 : 5 ≤ o
    · rw [if_pos ((nIge (x := 5) 5 rfl (by omega) (by omega)).mpr c5)]; exact b85 h1 (by omega)
    · rw [if_neg (fun q => c5 ((nIge (x := 5) 5 rfl (by omega) (by omega)).mp q)), two (by omega)]; rfl
  have one : (o = 5 ∨ (10 < o ∧ o < 16) ∨ (20 < o ∧ o < 24) ∨ (46 < o ∧ o < 52) ∨ (52 < o ∧ o < 59)) → some (z, (1 : Int32)) = some (z, nI (opB o)) := fun h => by unfold opB; rw [if_pos h]; rfl
  have b41 : ¬ (o = 5 ∨ (10 < o ∧ o < 16) ∨ (20 < o ∧ o < 24) ∨ (46 < o ∧ o < 52)) → fn_X16_operandBytes_B41 F sh n (nI o) z = some (z, nI (opB o)) := fun h1 => by
    unfold fn_X16_operandBytes_B41
    by_cases c : o ≤ 52
    · rw [if_pos ((nIle (x := 52) 52 rfl (by omega) (by omega)).mpr c)]; exact b55 (by omega)
    rw [if_neg (fun q => c ((nIle (x := 52) 52 rfl (by omega) (by omega)).mp q))]
    by_cases d : 59 ≤ o
    · rw [if_pos ((nIge (x := 59) 59 rfl (by omega) (by omega)).mpr d)]; exact b55 (by omega)
    · rw [if_neg (fun q => d ((nIge (x := 59) 59 rfl (by omega) (by omega)).mp q))]; exact one (by omega)
  have b29 : ¬ (o = 5 ∨ (10 < o ∧ o < 16) ∨ (20 < o ∧ o < 24)) → fn_X16_operandBytes_B29 F sh n (nI o) z = some (z, nI (opB o)) := fun h1 => by
    unfold fn_X16_operandBytes_B29
    by_cases c : o ≤ 46
    · rw [if_pos ((nIle (x := 46) 46 rfl (by omega) (by omega)).mpr c)]; exact b41 (by omega)
    rw [if_neg (fun q => c ((nIle (x := 46) 46 rfl (by omega) (by omega)).mp q))]
    by_cases d : o < 52
    · rw [if_pos ((nIlt (x := 52) 52 rfl (by omega) (by omega)).mpr d)]; exact one (by omega)
    · rw [if_neg (fun q => d ((nIlt (x := 52) 52 rfl (by omega) (by omega)).mp q))]; exact b41 (by omega)
  have b17 : ¬ (o = 5 ∨ (10 < o ∧ o < 16)) → fn_X16_operandBytes_B17 F sh n (nI o) z = some (z, nI (opB o)) := fun h1 => by
    unfold fn_X16_operandBytes_B17
    by_cases c : o ≤ 20
    · rw [if_pos ((nIle (x := 20) 20 rfl (by omega) (by omega)).mpr c)]; exact b29 (by omega)
    rw [if_neg (fun q => c ((nIle (x := 20) 20 rfl (by omega) (by omega)).mp q))]
    by_cases d : o < 24
    · rw [if_pos ((nIlt (x := 24) 24 rfl (by omega) (by omega)).mpr d)]; exact one (by omega)
    · rw [if_neg (fun q => d ((nIlt (x := 24) 24 rfl (by omega) (by omega)).mp q))]; exact b29 (by omega)
  unfold fn_X16_operandBytes
  by_cases c5 : o = 5
  · rw [if_pos ((E 5 5 rfl (by omega)).mpr c5)]; exact one (by omega)
  rw [if_neg (fun q => c5 ((E 5 5 rfl (by omega)).mp q))]
  by_cases c : o ≤ 10
  · rw [if_pos ((nIle (x := 10) 10 rfl (by omega) (by omega)).mpr c)]; exact b17 (by omega)
  rw [if_neg (fun q => c ((nIle (x := 10) 10 rfl (by omega) (by omega)).mp q))]
  by_cases d : o < 16
  · rw [if_pos ((nIlt (x := 16) 16 rfl (by omega) (by omega)).mpr d)]; exact one (by omega)
  · rw [if_neg (fun q => d ((nIlt (x := 16) 16 rfl (by omega) (by omega)).mp q))]; exact b17 (by omega)
theorem UB.frw {ks js : List Nat} (h : UB sh n z ku b len) (f : FrOw ku ks js z z') (h1 : ku + 1 ∉ ks) (h2 : 1 ∉ js) : UB sh n z' ku b len := by
  obtain ⟨a1, a2, a3, a4, a5⟩ := h
  exact ⟨a1.of (by rw [f.1]), a2, by rw [f.2.2 1 h2]; exact a3, a4, fun p hp => by rw [f.2.1 (ku + 1) (by omega) h1]; exact a5 p hp⟩
theorem opB_16 (o : Nat) : opB o < 100 := by
  unfold opB
  by_cases c1 : o = 5 ∨ (10 < o ∧ o < 16) ∨ (20 < o ∧ o < 24) ∨ (46 < o ∧ o < 52) ∨ (52 < o ∧ o < 59)
  · rw [if_pos c1]; omega
  rw [if_neg c1]
  by_cases c2 : o = 16 ∨ o = 17 ∨ o = 52 ∨ (1 < o ∧ o < 5)
  · rw [if_pos c2]; omega
  rw [if_neg c2]
  by_cases c3 : o = 6 ∨ o = 10
  · rw [if_pos c3]; omega
  rw [if_neg c3]
  by_cases c4 : o = 7
  · rw [if_pos c4]; omega
  · rw [if_neg c4]; omega
theorem US.overInstruction (h : US sh n z ku b len p) {cs : List Nat} (T : TI z ku cs) (hc : cs.length ≤ p) : ∃ z', fn_X16_overInstruction F sh n z ku = some (z', ()) ∧ UP sh n z' ku b len (pI1 b len p) ∧ (∀ q, pI1 b len p = .ok q → TI z' ku (cs ++ [p])) ∧ FrOw ku [ku + 7] [2, 3, 4, 10] z z' := by
  obtain ⟨z1, s1, s2, s3⟩ := h.over1 (F := F)
  have f1 : FrOw ku [ku + 7] [2, 3, 4, 10] z z1 := s3.w (by simp)
  unfold fn_X16_overInstruction pI1
  rw [h.1.o, grd_true, s1, cal_s]
  cases e : rBy b len p with
  | error x =>
    rw [e] at s2
    rw [UF.good (F := F) s2, cal_s, if_pos rfl]
    exact ⟨z1, rfl, s2, (fun q x => by cases x), f1⟩
  | ok x =>
    rw [e] at s2
    obtain ⟨e1, e2⟩ := rBy_ok e
    subst e2
    have s2' : US sh n z1 ku b len (p + 1) := s2
    obtain ⟨u0, u1, _, _, _, _, _, u7, _, _, _, _, _, _, _, u15, _⟩ := b_unit s2'.1.1 s2'.1.2.1
    have l8 := h.1.2.2.2.1
    have e10 : z1.1 ku 10 = nI cs.length := by rw [s3.2.2 10 (by omega) (by omega) (by omega)]; exact T.1
    have ok7 : okA sh n (ku + 7) 101 (nI cs.length) = true := by rw [u15]; exact okI_nI (by omega) (by omega)
    have cp : (nI cs.length).toNatClampNeg = cs.length := nI_clamp (by omega)
    have b8 := (h.1.2.2.2.2 p e1).2
    generalize eZ : si (si z1 (ku + 7) cs.length (nI p)) ku 10 (nI (cs.length + 1)) = z2
    have f2 : FrOw ku [ku + 7] [2, 3, 4, 10] z1 z2 := by rw [← eZ]; exact (FrOw.si (.inr ⟨by omega, by simp⟩)).trans (FrOw.si (.inl ⟨rfl, by simp⟩))
    have ub2 : UB sh n z2 ku b len := s2'.1.frw f2 (by simp) (by simp)
    have us2 : US sh n z2 ku b len (p + 1) := ⟨ub2, by rw [← eZ, si_oj (by omega), si_ok (by omega)]; exact s2'.2.1, s2'.2.2.1, by rw [← eZ, si_oj (by omega), si_ok (by omega)]; exact s2'.2.2.2⟩
    have ti2 : TI z2 ku (cs ++ [p]) := by
      refine ⟨by rw [← eZ, si_ss, List.length_append]; rfl, fun j hj => ?_⟩
      rw [List.length_append] at hj
      have hj' : j < cs.length + 1 := hj
      rw [← eZ, si_ok (by omega)]
      by_cases c : j = cs.length
      · subst c
        rw [si_ss, List.getD_eq_getElem?_getD, List.getElem?_append_right (by omega), Nat.sub_self]; rfl
      · rw [si_oj c, s3.2.1 (ku + 7) (by omega), T.2 j (by omega), List.getD_eq_getElem?_getD, List.getD_eq_getElem?_getD, List.getElem?_append_left (by omega)]
    have tiF : ∀ {z3 : St}, FrCu ku z2 z3 → TI z3 ku (cs ++ [p]) := fun g => ⟨by rw [g.2.2 10 (by omega) (by omega) (by omega)]; exact ti2.1, fun j hj => by rw [g.2.1 (ku + 7) (by omega)]; exact ti2.2 j hj⟩
    have by2 := us2.1.byte (F := F) e1
    rw [s2'.good, cal_s, if_neg (show ¬ (1 : Int32) = 0 by decide), u7, lnk_s, e10, ok7, grd_true, lt_t, cp, si_ok (show ku ≠ ku + 7 by omega), e10, nI_1, lt_t, eZ, by2, cal_s, ok_bq]
    show ∃ z', _ ∧ UP sh n z' ku b len (if 59 < b p then .error (5, p) else if b p = 52 then rBy b len (p + 1) >>= fun a => rN b len 0 64 a.2 >>= fun c => .ok ((), c.2) else sk len (opB (b p)) (p + 1) : Ex (Unit × Nat)) ∧ (∀ q, (if 59 < b p then .error (5, p) else if b p = 52 then rBy b len (p + 1) >>= fun a => rN b len 0 64 a.2 >>= fun c => .ok ((), c.2) else sk len (opB (b p)) (p + 1) : Ex (Unit × Nat)) = .ok q → _) ∧ _
    by_cases c59 : b p ≤ 59
    · rw [if_pos ((nIle (x := 59) 59 rfl (by omega) (by omega)).mpr c59), by2, cal_s, if_neg (show ¬ 59 < b p by omega)]
      by_cases c52 : b p = 52
      · rw [if_pos ((nIe (x := 52) 52 rfl (by omega) (by omega)).mpr c52), if_pos c52]
        obtain ⟨z3, t1, t2, t3⟩ := us2.over1 (F := F)
        rw [t1, cal_s]
        cases e3 : rBy b len (p + 1) with
        | error x =>
          rw [e3] at t2
          rw [UF.good (F := F) t2, cal_s, if_pos rfl]
          exact ⟨z3, rfl, t2, (fun q x => by cases x), (f1.trans f2).trans (t3.w (by simp))⟩
        | ok x =>
          rw [e3] at t2
          obtain ⟨e4, e5⟩ := rBy_ok e3
          subst e5
          have t2' : US sh n z3 ku b len (p + 2) := t2
          obtain ⟨z4, v1, v2, v3⟩ := t2'.count (F := F) (lo := 0) (hi := 64) (by omega) (by omega)
          have v1' : fn_X16_count F sh n z3 ku 0 64 = some (z4, _) := v1
          rw [t2'.good, cal_s, if_neg (show ¬ (1 : Int32) = 0 by decide), v1', cal_s, ok_bq]
          refine ⟨z4, rfl, ?_, fun q x => tiF (t3.trans v3), (f1.trans f2).trans ((t3.trans v3).w (by simp))⟩
          show UP sh n z4 ku b len (rN b len 0 64 (p + 2) >>= fun c => .ok ((), c.2) : Ex (Unit × Nat))
          cases e6 : rN b len 0 64 (p + 2) with
          | error y => rw [e6] at v2; exact v2
          | ok y => rw [e6] at v2; exact v2
      · obtain ⟨z3, t1, t2, t3⟩ := us2.over (F := F) (k := opB (b p)) (opB_16 _)
        rw [if_neg (fun q => c52 ((nIe (x := 52) 52 rfl (by omega) (by omega)).mp q)), by2, cal_s, opB_t b8, cal_s, t1, cal_s, if_neg c52]
        exact ⟨z3, rfl, t2, fun q x => tiF t3, (f1.trans f2).trans (t3.w (by simp))⟩
    · obtain ⟨z3, t1, t2, t3⟩ := us2.fail (F := F) (w := 5) (q := p) (by omega) (by omega)
      have t1' : fn_X16_fail F sh n z2 ku 5 (nI p) = some (z3, ()) := t1
      rw [if_neg (fun q => c59 ((nIle (x := 59) 59 rfl (by omega) (by omega)).mp q)), t1', cal_s, if_pos (show 59 < b p by omega)]
      exact ⟨z3, rfl, t2, (fun q x => by cases x), (f1.trans f2).trans (t3.w (by simp))⟩
end
