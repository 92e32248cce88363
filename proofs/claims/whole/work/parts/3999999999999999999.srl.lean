/-! READING WITH JUDGING: of what was read it is judging -/
theorem endS_n (c : Nat) : ∀ (u : Ty), (∀ x, x ∈ u → 6 < x) → endS (u ++ [c]) = none := by
  intro u
  induction u with
  | nil => intro _; rfl
  | cons a u ih =>
    intro hu
    cases u with
    | nil =>
      have : 6 < a := hu a (by simp)
      show endS [a, c] = none
      simp only [endS, if_neg (show ¬ a = 6 by omega)]
    | cons d u =>
      have i := ih (fun x hx => hu x (by simp [hx]))
      cases u with
      | nil => exact i
      | cons _ _ => exact i
theorem endS_6 (y : Nat) : ∀ (u : Ty), endS (u ++ [6, y]) = some y := by
  intro u
  induction u with
  | nil => rfl
  | cons a u ih =>
    cases u with
    | nil => rfl
    | cons d u =>
      cases u with
      | nil => exact ih
      | cons _ _ => exact ih
section
variable {b : Nat → Nat} {len all : Nat}
theorem rTe_j {t : Ty} {w c p p0 : Nat} {q : Ty × Nat} (ht : ∀ x, x ∈ t → 6 < x) (hp : p = p0 + t.length + 1) (h : rTe b len none t w c p = .ok q) : rTe b len (some all) t w c p = jg (jT all p0 q.1) (.ok q) := by
  unfold rTe at h ⊢
  by_cases c1 : c < 1 ∨ 6 < c
  · rw [if_pos c1] at h; cases h
  rw [if_neg c1] at h ⊢
  by_cases c6 : c = 6
  · rw [if_pos c6] at h ⊢
    obtain ⟨a, e1, e2⟩ := bq_ok h
    have e2' : (.ok (t ++ [6, a.1], a.2) : Ex (Ty × Nat)) = .ok q := e2
    cases e2'
    rw [e1, ok_bq]
    unfold jT
    rw [endS_6]
    show (if decide (all ≤ a.1) = true then .error (7, p) else .ok (t ++ [6, a.1], a.2) : Ex (Ty × Nat)) = jg (if all ≤ a.1 then some (7, p0 + (t ++ [6, a.1]).length - 1) else none) _
    by_cases d : all ≤ a.1
    · rw [if_pos (decide_eq_true d), if_pos d, List.length_append, hp]
      show (.error (7, p0 + t.length + 1) : Ex (Ty × Nat)) = .error (7, p0 + (t.length + 2) - 1)
      congr 2
    · rw [if_neg (fun y => d (of_decide_eq_true y)), if_neg d]; rfl
  · rw [if_neg c6] at h ⊢
    cases h
    unfold jT
    rw [endS_n c t ht]; rfl
theorem rTv_j : ∀ (m : Nat) {t : Ty} {w c p p0 : Nat} {q : Ty × Nat}, (∀ x, x ∈ t → 6 < x) → p = p0 + t.length + 1 → rTv b len none m t w c p = .ok q → rTv b len (some all) m t w c p = jg (jT all p0 q.1) (.ok q)
  | 0, t, w, c, p, p0, q, ht, hp, h => rTe_j ht hp h
  | m + 1, t, w, c, p, p0, q, ht, hp, h => by
    unfold rTv at h ⊢
    by_cases c7 : c = 7
    · rw [if_pos c7] at h ⊢
      obtain ⟨a, e1, e2⟩ := bq_ok h
      rw [e1, ok_bq]
      obtain ⟨_, ea⟩ := rBy_ok e1
      subst ea
      refine rTv_j m (fun x hx => ?_) ?_ e2
      · rcases List.mem_append.mp hx with h1 | h1
        · exact ht x h1
        · have : x = 7 := by simpa using h1
          omega
      · rw [List.length_append, hp]; rfl
    · rw [if_neg c7] at h ⊢
      exact rTe_j ht hp h
theorem rT_j {rf : Bool} {p : Nat} {q : Ty × Nat} (h : rT b len none rf p = .ok q) : rT b len (some all) rf p = jg (jT all p q.1) (.ok q) := by
  unfold rT at h ⊢
  obtain ⟨a, e1, e2⟩ := bq_ok h
  obtain ⟨_, ea⟩ := rBy_ok e1
  subst ea
  rw [e1, ok_bq]
  by_cases c : (rf && ((b p, p + 1).1 == 8 || (b p, p + 1).1 == 9)) = true
  · rw [if_pos c] at e2 ⊢
    obtain ⟨a2, e3, e4⟩ := bq_ok e2
    obtain ⟨_, ea⟩ := rBy_ok e3
    subst ea
    rw [e3, ok_bq]
    refine rTv_j 4 (fun x hx => ?_) ?_ e4
    · have : x = b p := by simpa using hx
      simp at c
      omega
    · rfl
  · rw [if_neg c] at e2 ⊢
    exact rTv_j 4 (fun x hx => by cases hx) rfl e2
theorem jTs_c (p : Nat) (t : Ty) (ts : List Ty) : jTs all p (t :: ts) = orE (jT all p t) (jTs all (p + t.length) ts) := rfl
theorem pTs_j {rf : Bool} : ∀ (k : Nat) {p : Nat} {q : List Ty × Nat}, pTs b len none rf k p = .ok q → pTs b len (some all) rf k p = jg (jTs all p q.1) (.ok q)
  | 0, p, q, h => by cases h; rfl
  | k + 1, p, q, h => by
    unfold pTs at h ⊢
    obtain ⟨t, e1, e2⟩ := bq_ok h
    obtain ⟨ts, e3, e4⟩ := bq_ok e2
    cases e4
    have ra := rT_at e1
    rw [rT_j e1, jg_b, pTs_j k e3, jg_b, jg_j, jTs_c, ra.2.1]
theorem pLs_j {most p : Nat} {q : List Ty × Nat} (h : pLs b len none most p = .ok q) : pLs b len (some all) most p = jg (jTs all (p + 1) q.1) (.ok q) := by
  unfold pLs at h ⊢
  obtain ⟨a, e1, e2⟩ := bq_ok h
  have e3 : a.2 = p + 1 := by
    unfold rN at e1
    obtain ⟨c, f1, f2⟩ := bq_ok e1
    obtain ⟨_, ea⟩ := rBy_ok f1
    subst ea
    by_cases cc : (b p, p + 1).1 < 0 ∨ most < (b p, p + 1).1
    · rw [if_pos cc] at f2; cases f2
    · rw [if_neg cc] at f2; cases f2; rfl
  rw [e1, ok_bq, pTs_j a.1 e2, e3]
theorem jd_s {α : Type} (j : JI) (e : JI → Flt) (x : Ex α) : jd (some j) e x = jg (e j) x := rfl
theorem sk_i {k p : Nat} {q : Unit × Nat} (h : sk len k p = .ok q) : q = ((), p + k) := by
  have := (sk_ok h).2
  cases q; cases this; rfl
theorem gI1_j {loc many p : Nat} {q : Unit × Nat} (j : JI) (h : pI1 b len p = .ok q) : gI1 b len (some j) loc many p = jg (jIn b j.1 j.2.1 j.2.2.1 j.2.2.2.1 j.2.2.2.2 loc many p) (.ok q) := by
  have h0 := h
  rw [← gI1_0 loc many] at h
  unfold gI1 at h ⊢
  obtain ⟨o, e1, e2⟩ := bq_ok h
  obtain ⟨hp, ea⟩ := rBy_ok e1
  subst ea
  rw [e1, ok_bq]
  unfold jIn
  show (if 59 < b p then _ else _) = _
  have e2' : (if 59 < b p then _ else _) = Except.ok q := e2
  by_cases c59 : 59 < b p
  · rw [if_pos c59] at e2'; cases e2'
  rw [if_neg c59] at e2' ⊢
  by_cases c1 : 1 < b p ∧ b p < 5
  · have e3 : (if 1 < b p ∧ b p < 5 then _ else _) = Except.ok q := e2'
    rw [if_pos c1] at e3
    obtain ⟨s, f1, f2⟩ := bq_ok e3
    cases f2
    show (if 1 < b p ∧ b p < 5 then _ else _) = _
    rw [if_pos c1, if_pos c1, f1, ok_bq, jd_s]
  have e3 : (if 1 < b p ∧ b p < 5 then _ else _) = Except.ok q := e2'
  rw [if_neg c1] at e3
  show (if 1 < b p ∧ b p < 5 then _ else _) = _
  rw [if_neg c1, if_neg c1]
  by_cases c2 : 4 < b p ∧ b p < 11
  · have e4 : (if 4 < b p ∧ b p < 11 then _ else _) = Except.ok q := e3
    rw [if_pos c2] at e4
    show (if 4 < b p ∧ b p < 11 then _ else _) = _
    rw [if_pos c2, if_neg (by omega), if_neg (by omega), if_neg (by omega), if_neg (by omega), if_neg (by omega)]
    exact e4
  have e4 : (if 4 < b p ∧ b p < 11 then _ else _) = Except.ok q := e3
  rw [if_neg c2] at e4
  show (if 4 < b p ∧ b p < 11 then _ else _) = _
  rw [if_neg c2]
  by_cases c3 : 10 < b p ∧ b p < 16
  · have e5 : (if 10 < b p ∧ b p < 16 then _ else _) = Except.ok q := e4
    rw [if_pos c3] at e5
    obtain ⟨a, f1, f2⟩ := bq_ok e5
    obtain ⟨_, ea⟩ := rBy_ok f1
    subst ea
    cases f2
    show (if 10 < b p ∧ b p < 16 then _ else _) = _
    rw [if_pos c3, if_pos c3, f1, ok_bq, jd_s]
  have e5 : (if 10 < b p ∧ b p < 16 then _ else _) = Except.ok q := e4
  rw [if_neg c3] at e5
  show (if 10 < b p ∧ b p < 16 then _ else _) = _
  rw [if_neg c3, if_neg c3]
  by_cases c4 : b p = 16 ∨ b p = 17
  · have e6 : (if b p = 16 ∨ b p = 17 then _ else _) = Except.ok q := e5
    rw [if_pos c4] at e6
    obtain ⟨a, f1, f2⟩ := bq_ok e6
    obtain ⟨a', f3, f4⟩ := bq_ok f1
    cases f4
    obtain ⟨_, ea⟩ := rBy_ok f3
    subst ea
    obtain ⟨c, f5, f6⟩ := bq_ok f2
    obtain ⟨_, ea⟩ := rBy_ok f5
    subst ea
    cases f6
    show (if b p = 16 ∨ b p = 17 then _ else _) = _
    rw [if_pos c4, if_pos c4]
    unfold gOwn
    rw [f3, ok_bq, jd_s, jg_b, f5, ok_bq, jd_s, jg_j]
  have e6 : (if b p = 16 ∨ b p = 17 then _ else _) = Except.ok q := e5
  rw [if_neg c4] at e6
  show (if b p = 16 ∨ b p = 17 then _ else _) = _
  rw [if_neg c4, if_neg c4]
  by_cases c5 : b p = 21 ∨ b p = 22 ∨ (46 < b p ∧ b p < 52)
  · have e7 : (if b p = 21 ∨ b p = 22 ∨ (46 < b p ∧ b p < 52) then _ else _) = Except.ok q := e6
    rw [if_pos c5] at e7
    obtain ⟨a, f1, f2⟩ := bq_ok e7
    obtain ⟨a', f3, f4⟩ := bq_ok f1
    cases f4
    cases f2
    show (if b p = 21 ∨ b p = 22 ∨ (46 < b p ∧ b p < 52) then _ else _) = _
    rw [if_pos c5, if_pos c5]
    unfold gOwn
    rw [f3, ok_bq, jd_s, jg_b]
  have e7 : (if b p = 21 ∨ b p = 22 ∨ (46 < b p ∧ b p < 52) then _ else _) = Except.ok q := e6
  rw [if_neg c5] at e7
  show (if b p = 21 ∨ b p = 22 ∨ (46 < b p ∧ b p < 52) then _ else _) = _
  rw [if_neg c5, if_neg c5]
  by_cases c6 : b p = 23
  · have e8 : (if b p = 23 then _ else _) = Except.ok q := e7
    rw [if_pos c6] at e8
    obtain ⟨a, f1, f2⟩ := bq_ok e8
    obtain ⟨_, ea⟩ := rBy_ok f1
    subst ea
    cases f2
    show (if b p = 23 then _ else _) = _
    rw [if_pos c6, if_pos c6, f1, ok_bq, jd_s]
  have e8 : (if b p = 23 then _ else _) = Except.ok q := e7
  rw [if_neg c6] at e8
  show (if b p = 23 then _ else _) = _
  rw [if_neg c6, if_neg c6]
  by_cases c7 : 51 < b p ∧ b p < 59
  · have e9 : (if 51 < b p ∧ b p < 59 then _ else _) = Except.ok q := e8
    rw [if_pos c7] at e9
    obtain ⟨a, f1, f2⟩ := bq_ok e9
    obtain ⟨_, ea⟩ := rBy_ok f1
    subst ea
    obtain ⟨a', f3, f4⟩ := bq_ok f2
    cases f3
    show (if 51 < b p ∧ b p < 59 then _ else _) = _
    rw [if_pos c7, if_pos c7, f1, ok_bq, jd_s, jg_b, f4]
  have e9 : (if 51 < b p ∧ b p < 59 then _ else _) = Except.ok q := e8
  rw [if_neg c7] at e9
  show (if 51 < b p ∧ b p < 59 then _ else _) = _
  rw [if_neg c7, if_neg c7]
  exact e9
theorem gIs_j {loc many : Nat} (j : JI) : ∀ (k : Nat) {p : Nat} {q : List Nat × Nat}, pIs b len k p = .ok q → gIs b len (some j) loc many k p = jg (jIs b j.1 j.2.1 j.2.2.1 j.2.2.2.1 j.2.2.2.2 loc many q.1) (.ok q)
  | 0, p, q, h => by cases h; rfl
  | k + 1, p, q, h => by
    unfold pIs at h
    unfold gIs
    obtain ⟨t, e1, e2⟩ := bq_ok h
    obtain ⟨ts, e3, e4⟩ := bq_ok e2
    cases e4
    rw [gI1_j j e1, jg_b, gIs_j j k e3, jg_b, jg_j]
    rfl
theorem gFn_j {tot p : Nat} {q : GP × Nat} (j : JI) (h : pF b len tot p = .ok q) : gFn b len (some j) tot p = jg (jGp b j.1 j.2.1 j.2.2.1 j.2.2.2.1 j.2.2.2.2 q.1) (.ok q) := by
  rw [← gFn_0] at h
  unfold gFn at h ⊢
  obtain ⟨a, e1, e2⟩ := bq_ok h
  obtain ⟨t, e3, e4⟩ := bq_ok e2
  obtain ⟨g, e5, e6⟩ := bq_ok e4
  obtain ⟨l, e7, e8⟩ := bq_ok e6
  obtain ⟨s, e9, e10⟩ := bq_ok e8
  by_cases c : shB b l.2 < 1 ∨ 1024 < shB b l.2 ∨ 8192 < tot + shB b l.2
  · rw [if_pos c] at e10; cases e10
  rw [if_neg c] at e10
  obtain ⟨x, e11, e12⟩ := bq_ok e10
  cases e12
  rw [gIs_0] at e11
  have e3' : pLs b len none 8 a.2 = .ok t := e3
  have e5' : pLs b len none 8 t.2 = .ok g := e5
  have e7' : pLs b len none 32 g.2 = .ok l := e7
  have a2 : a.2 = p + 1 := by
    unfold rN at e1
    obtain ⟨c, f1, f2⟩ := bq_ok e1
    obtain ⟨_, ea⟩ := rBy_ok f1
    subst ea
    by_cases cc : (b p, p + 1).1 < 0 ∨ 7 < (b p, p + 1).1
    · rw [if_pos cc] at f2; cases f2
    · rw [if_neg cc] at f2; cases f2; rfl
  have ta := pLs_at e3'
  have ga := pLs_at e5'
  have la := pLs_at e7'
  have xl := (pIs_p _ e11).1
  show (rN b len 0 7 p >>= fun a => pLs b len (some j.2.1) 8 a.2 >>= fun t => pLs b len (some j.2.1) 8 t.2 >>= fun g => pLs b len (some j.2.1) 32 g.2 >>= fun l => sk len 2 l.2 >>= fun s => if shB b l.2 < 1 ∨ 1024 < shB b l.2 ∨ 8192 < tot + shB b l.2 then .error (3, l.2) else gIs b len (some j) (t.1.length + l.1.length) (shB b l.2) (shB b l.2) s.2 >>= fun c => .ok ((p, a.1, t.1, g.1, l.1, c.1), c.2)) = _
  rw [e1, ok_bq, pLs_j e3', jg_b, pLs_j e5', jg_b, pLs_j e7', jg_b, e9, ok_bq, if_neg c, gIs_j j _ e11, jg_b, jg_j, jg_j, jg_j]
  unfold jGp
  show jg _ _ = jg (orE (orE (orE (jTs j.2.1 (p + 2) t.1) (jTs j.2.1 (endL (p + 2) t.1 + 1) g.1)) (jTs j.2.1 (endL (endL (p + 2) t.1 + 1) g.1 + 1) l.1)) (jIs b j.1 j.2.1 j.2.2.1 j.2.2.2.1 j.2.2.2.2 (t.1.length + l.1.length) x.1.length x.1)) _
  have t2 : t.2 = endL (p + 2) t.1 := by rw [ta.2.2.2.2, a2]
  have g2 : g.2 = endL (endL (p + 2) t.1 + 1) g.1 := by rw [ga.2.2.2.2, t2]
  rw [xl, a2, g2, t2]
theorem jGs_a {own al fns els : Nat} {fds : Nat → Nat} : ∀ (xs ys : List GP), jGs b own al fds fns els (xs ++ ys) = orE (jGs b own al fds fns els xs) (jGs b own al fds fns els ys)
  | [], ys => rfl
  | x :: xs, ys => by
    show orE (jGp b own al fds fns els x) (jGs b own al fds fns els (xs ++ ys)) = orE (orE (jGp b own al fds fns els x) (jGs b own al fds fns els xs)) _
    rw [jGs_a xs ys, orE_a]
theorem gFns_j (j : JI) : ∀ (k : Nat) {gs : List GP} {p : Nat} {q : List GP × Nat}, pFs b len k gs p = .ok q → ∃ hs, q.1 = gs ++ hs ∧ gFns b len (some j) k gs p = jg (jGs b j.1 j.2.1 j.2.2.1 j.2.2.2.1 j.2.2.2.2 hs) (.ok q)
  | 0, gs, p, q, h => by cases h; exact ⟨[], by simp, rfl⟩
  | k + 1, gs, p, q, h => by
    unfold pFs at h
    obtain ⟨t, e1, e2⟩ := bq_ok h
    obtain ⟨hs, e3, e4⟩ := gFns_j j k e2
    refine ⟨t.1 :: hs, by rw [e3, List.append_assoc]; rfl, ?_⟩
    unfold gFns
    rw [gFn_j j e1, jg_b, e4, jg_j]
    rfl
theorem gEls_j (j : JI) : ∀ (k : Nat) {p : Nat} {q : List (Nat × Ty) × Nat}, pEs b len k p = .ok q → gEls b len (some j) k p = jg (jEs j.2.1 q.1) (.ok q)
  | 0, p, q, h => by cases h; rfl
  | k + 1, p, q, h => by
    unfold pEs at h
    unfold gEls
    obtain ⟨t, e1, e2⟩ := bq_ok h
    obtain ⟨ts, e3, e4⟩ := bq_ok e2
    cases e4
    show (rT b len (some j.2.1) false p >>= _) = _
    rw [rT_j e1, jg_b, gEls_j j k e3, jg_b, jg_j]
    rfl
theorem gCas_j (j : JI) : ∀ (k : Nat) {p : Nat} {q : List CP × Nat}, pCs b len k p = .ok q → gCas b len (some j) k p = jg (jCs j.2.1 q.1) (.ok q)
  | 0, p, q, h => by cases h; rfl
  | k + 1, p, q, h => by
    unfold pCs at h
    unfold gCas
    obtain ⟨c, e1, e2⟩ := bq_ok h
    obtain ⟨cs, e3, e4⟩ := bq_ok e2
    cases e4
    have ec : gCa b len (some j) p = jg (orE (jTs j.2.1 (c.1.1 + 5) c.1.2.1) (jTs j.2.1 (endL (c.1.1 + 5) c.1.2.1 + 1) c.1.2.2)) (.ok c) := by
      unfold pCa at e1
      obtain ⟨s, f1, f2⟩ := bq_ok e1
      obtain ⟨a, f3, f4⟩ := bq_ok f2
      obtain ⟨t, f5, f6⟩ := bq_ok f4
      obtain ⟨g, f7, f8⟩ := bq_ok f6
      cases f8
      have s2 := sk_i f1
      subst s2
      have a2 : a.2 = p + 3 + 1 := by
        unfold rN at f3
        obtain ⟨c, g1, g2⟩ := bq_ok f3
        obtain ⟨_, ea⟩ := rBy_ok g1
        subst ea
        by_cases cc : (b (((), p + 3) : Unit × Nat).2, (((), p + 3) : Unit × Nat).2 + 1).1 < 0 ∨ 7 < (b (((), p + 3) : Unit × Nat).2, (((), p + 3) : Unit × Nat).2 + 1).1
        · rw [if_pos cc] at g2; cases g2
        · rw [if_neg cc] at g2; cases g2; rfl
      have ta := pLs_at f5
      unfold gCa
      show (sk len 3 p >>= fun s => rN b len 0 7 s.2 >>= fun a => pLs b len (some j.2.1) 8 a.2 >>= fun t => pLs b len (some j.2.1) 8 t.2 >>= fun g => .ok ((p, t.1, g.1), g.2)) = _
      rw [f1, ok_bq, f3, ok_bq, pLs_j f5, jg_b, pLs_j f7, jg_b, jg_j]
      show jg (orE (jTs j.2.1 (a.2 + 1) t.1) (jTs j.2.1 (t.2 + 1) g.1)) _ = jg (orE (jTs j.2.1 (p + 5) t.1) (jTs j.2.1 (endL (p + 5) t.1 + 1) g.1)) _
      rw [ta.2.2.2.2, a2]
    rw [ec, jg_b, gCas_j j k e3, jg_b, jg_j]
    rfl
theorem gSts_j (j : JI) : ∀ (k : Nat) {p : Nat} {q : List SP × Nat}, pSs b len k p = .ok q → gSts b len (some j) k p = jg (jSs j.2.1 q.1) (.ok q)
  | 0, p, q, h => by cases h; rfl
  | k + 1, p, q, h => by
    unfold pSs at h
    unfold gSts
    obtain ⟨c, e1, e2⟩ := bq_ok h
    obtain ⟨cs, e3, e4⟩ := bq_ok e2
    cases e4
    have ec : gSt b len (some j) p = jg (jTs j.2.1 (c.1.1 + 2) c.1.2.2) (.ok c) := by
      unfold pSt at e1
      obtain ⟨a, f3, f4⟩ := bq_ok e1
      obtain ⟨d, f5, f6⟩ := bq_ok f4
      obtain ⟨t, f7, f8⟩ := bq_ok f6
      cases f8
      have nx : ∀ {lo hi p : Nat} {q : Nat × Nat}, rN b len lo hi p = .ok q → q.2 = p + 1 := fun {lo hi p q} y => by
        unfold rN at y
        obtain ⟨c, g1, g2⟩ := bq_ok y
        obtain ⟨_, ea⟩ := rBy_ok g1
        subst ea
        by_cases cc : (b p, p + 1).1 < lo ∨ hi < (b p, p + 1).1
        · rw [if_pos cc] at g2; cases g2
        · rw [if_neg cc] at g2; cases g2; rfl
      unfold gSt
      show (rN b len 0 15 p >>= fun a => rN b len 1 16 a.2 >>= fun c => pTs b len (some j.2.1) false c.1 c.2 >>= fun t => .ok ((p, a.1, t.1), t.2)) = _
      rw [f3, ok_bq, f5, ok_bq, pTs_j _ f7, jg_b, nx f5, nx f3]
    rw [ec, jg_b, gSts_j j k e3, jg_b, jg_j]
    rfl
/-- reading a module that was read once, with judging, is judging it -/
theorem gAll_j {q : MP × Nat} (h : pAll b len = .ok q) : gAll b len (some (q.1.1.length, q.1.1.length + q.1.2.1.length, fdM q.1, q.1.2.2.2.2.length + q.1.2.2.1.length, q.1.2.2.2.1.length)) = jg (jM b q.1) (.ok q) := by
  unfold pAll at h
  obtain ⟨h0, e1, h⟩ := bq_ok h
  obtain ⟨s0, e2, h⟩ := bq_ok h
  unfold q1 at h
  obtain ⟨n1, e3, h⟩ := bq_ok h
  obtain ⟨ss, e4, h⟩ := bq_ok h
  obtain ⟨r2, h2, h⟩ := bq_ok h
  cases h
  unfold q2 at h2
  obtain ⟨n2, e5, h2⟩ := bq_ok h2
  obtain ⟨fo, e6, h2⟩ := bq_ok h2
  obtain ⟨r3, h3, h2⟩ := bq_ok h2
  cases h2
  unfold q3 at h3
  obtain ⟨n3, e7, h3⟩ := bq_ok h3
  obtain ⟨cs, e8, h3⟩ := bq_ok h3
  obtain ⟨r4, h4, h3⟩ := bq_ok h3
  cases h3
  unfold q4 at h4
  obtain ⟨n4, e9, h4⟩ := bq_ok h4
  obtain ⟨es, e10, h4⟩ := bq_ok h4
  obtain ⟨r5, h5, h4⟩ := bq_ok h4
  cases h4
  unfold q5 at h5
  obtain ⟨n5, e11, h5⟩ := bq_ok h5
  obtain ⟨fs, e12, h5⟩ := bq_ok h5
  by_cases c : fs.2 < len
  · rw [if_pos c] at h5; cases h5
  rw [if_neg c] at h5
  cases h5
  generalize ej : (((ss.1, fo.1, cs.1, es.1, r5.1), r5.2) : MP × Nat).1 = M
  have hM : M = (ss.1, fo.1, cs.1, es.1, r5.1) := ej.symm
  subst hM
  generalize ejj : ((ss.1.length, ss.1.length + fo.1.length, fdM (ss.1, fo.1, cs.1, es.1, r5.1), r5.1.length + cs.1.length, es.1.length) : JI) = j
  obtain ⟨hs, e13, e14⟩ := gFns_j j _ e12
  rw [List.nil_append] at e13
  unfold gAll gq1 gq2 gq3 gq4 gq5
  rw [e1, ok_bq, e2, ok_bq, e3, ok_bq, gSts_j j _ e4, jg_b, e5, ok_bq, e6, ok_bq, e7, ok_bq, gCas_j j _ e8, jg_b, e9, ok_bq, gEls_j j _ e10, jg_b, e11, ok_bq, e14, jg_b, if_neg c, jg_b, jg_j, jg_b, jg_j, jg_b, jg_b, jg_j]
  rw [← ejj, ← e13]
  unfold jM
  rw [orE_a, orE_a]
end
