/-! TYPES BY WHAT THEY ARE; a frame answers to what looking knows -/
def sT (id : Nat → Nat) : Ty → Nat
  | [] => 0
  | [k] => k
  | a :: b :: t => if a = 6 then 256 + id b else if a = 7 then 2 ^ 32 + sT id (b :: t) else sT id (b :: t)
def sR (t : Ty) : Nat := if isR t then hdT t else 0
/-- a type of values; ns structures -/
def PT (ns : Nat) : Ty → Prop
  | [] => False
  | [k] => 1 ≤ k ∧ k ≤ 5
  | a :: b :: t => (a = 6 ∧ b < ns ∧ t = []) ∨ (a = 7 ∧ PT ns (b :: t))
def STy (ns : Nat) (t : Ty) : Prop := PT ns t ∨ ∃ r p, (r = 8 ∨ r = 9) ∧ t = r :: p ∧ PT ns p
theorem PT.ne {ns : Nat} {t : Ty} (h : PT ns t) : t ≠ [] := by
  intro e; subst e; exact h
theorem PT.hd {ns : Nat} {t : Ty} (h : PT ns t) : hdT t < 8 ∧ isR t = false := by
  have : hdT t < 8 := by
    match t, h with
    | [k], h => obtain ⟨h1, h2⟩ := h; simp [hdT]; omega
    | a :: b :: t, h =>
      rcases h with h | h
      · simp [hdT]; omega
      · simp [hdT]; omega
  refine ⟨this, ?_⟩
  unfold isR
  simp only [Bool.or_eq_false_iff, beq_eq_false_iff_ne]
  omega
theorem STy.ref {ns : Nat} {t : Ty} (h : STy ns t) (hr : isR t = true) : ∃ r p, (r = 8 ∨ r = 9) ∧ t = r :: p ∧ PT ns p := by
  rcases h with h | h
  · rw [h.hd.2] at hr; exact absurd hr (by simp)
  · exact h
theorem STy.pl {ns : Nat} {t : Ty} (h : STy ns t) (hr : isR t = false) : PT ns t := by
  rcases h with h | ⟨r, p, h1, h2, _⟩
  · exact h
  · subst h2
    rcases h1 with h1 | h1 <;> · subst h1; simp [isR, hdT] at hr
theorem isR_c {r : Nat} {p : Ty} (h : r = 8 ∨ r = 9) : isR (r :: p) = true := by
  rcases h with h | h <;> · subst h; simp [isR, hdT]
theorem sR_c {r : Nat} {p : Ty} (h : r = 8 ∨ r = 9) : sR (r :: p) = r := by
  unfold sR; rw [isR_c h]; rfl
theorem sR_p {ns : Nat} {t : Ty} (h : PT ns t) : sR t = 0 := by unfold sR; rw [h.hd.2]; rfl
theorem sT_c {id : Nat → Nat} {ns r : Nat} {p : Ty} (h : r = 8 ∨ r = 9) (hp : PT ns p) : sT id (r :: p) = sT id p := by
  match p, hp with
  | [k], _ => rcases h with h | h <;> · subst h; simp [sT]
  | a :: b :: t, _ => rcases h with h | h <;> · subst h; simp [sT]
theorem sT_v {id : Nat → Nat} {ns : Nat} {p : Ty} (hp : PT ns p) : sT id (7 :: p) = 2 ^ 32 + sT id p := by
  match p, hp with
  | [k], _ => simp [sT]
  | a :: b :: t, _ => simp [sT]
theorem sT_s {id : Nat → Nat} {a : Nat} : sT id [6, a] = 256 + id a := by simp [sT]
theorem PT_v {ns : Nat} {p : Ty} (hp : PT ns p) : PT ns (7 :: p) := by
  match p, hp with
  | [k], h => exact .inr ⟨rfl, h⟩
  | a :: b :: t, h => exact .inr ⟨rfl, h⟩
theorem PT_s {ns a : Nat} (h : a < ns) : PT ns [6, a] := .inl ⟨rfl, h, rfl⟩
/-- a slot of the machine answers to one of looking -/
def SMt (id : Nat → Nat) (s : Sl) (q : SS) : Prop := s.2.1 = sR q.1 ∧ s.2.2.1 = sT id q.1 ∧ (isR q.1 = true → s.2.2.2.1 = q.2.1 ∧ s.2.2.2.2 = q.2.2)
/-- a frame answers to what looking knows -/
def FM (U : Md) (ls : List Ty) (x : Fm) (L : Lks) : Prop := x.2.2.1.1 = L.1.1 ∧ L.1.1 ≤ 64 ∧ (∀ k, k < L.1.1 → SMt U.2.2.2.1 (x.2.2.1.2 k) (L.1.2 k) ∧ STy U.1.2.2 (L.1.2 k).1) ∧ (∀ k, k < ls.length → (L.2.1 k = true → ∃ s, x.2.1 k = some s ∧ SMt U.2.2.2.1 s (ls.getD k [], L.2.2.1 k, L.2.2.2 k)) ∧ (L.2.1 k = false → ∀ s, x.2.1 k = some s → s.2.1 = 0 ∧ isR (ls.getD k []) = false ∧ hasD U (ls.getD k []) = true)) ∧ ∀ k, ls.length ≤ k → x.2.1 k = none
section
variable {U : Md} {ls : List Ty} {x : Fm} {L : Lks}
theorem px_ok {α β : Type} {a : Px α} {f : α → Px β} {y : β} (h : (a >>= f) = .ok y) : ∃ v, a = .ok v ∧ f v = .ok y := by
  cases a with
  | error e => exact absurd h (by simp [bind, Except.bind])
  | ok v => exact ⟨v, rfl, h⟩
theorem nd_ok {b : Bool} {w : Nat} {v : Unit} (h : nd_ b w = .ok v) : b = true := by
  unfold nd_ at h
  by_cases c : b = true
  · exact c
  · rw [if_neg c] at h; exact absurd h (by simp)
theorem take_ok {q : SS × Lks} (h : lTake L = .ok q) : 0 < L.1.1 ∧ q.1 = L.1.2 (L.1.1 - 1) ∧ q.2 = ((L.1.1 - 1, L.1.2), L.2) := by
  unfold lTake at h
  by_cases c : L.1.1 = 0
  · rw [if_pos c] at h; exact absurd h (by simp)
  · rw [if_neg c] at h
    cases h
    exact ⟨by omega, rfl, rfl⟩
theorem takeT_ok {t : Ty} {L' : Lks} (h : lTakeT t L = .ok L') : 0 < L.1.1 ∧ (L.1.2 (L.1.1 - 1)).1 = t ∧ L' = ((L.1.1 - 1, L.1.2), L.2) := by
  unfold lTakeT at h
  obtain ⟨q, h1, h2⟩ := px_ok h
  obtain ⟨_, h3, h4⟩ := px_ok h2
  obtain ⟨a, b, c⟩ := take_ok h1
  have := nd_ok h3
  cases h4
  exact ⟨a, by rw [← b]; simpa using this, c⟩
theorem takeR_ok {to : Option Ty} {w : Bool} {q : SS × Lks} (h : lTakeR to w L = .ok q) : 0 < L.1.1 ∧ q.1 = L.1.2 (L.1.1 - 1) ∧ q.2 = ((L.1.1 - 1, L.1.2), L.2) ∧ isR q.1.1 = true ∧ (∀ t, to = some t → q.1.1.tail = t) ∧ (w = true → hdT q.1.1 = 9) := by
  unfold lTakeR at h
  obtain ⟨p, h1, h2⟩ := px_ok h
  obtain ⟨_, h3, h4⟩ := px_ok h2
  obtain ⟨_, h5, h6⟩ := px_ok h4
  obtain ⟨a, b, c⟩ := take_ok h1
  have n1 := nd_ok h3
  have n2 := nd_ok h5
  cases h6
  simp only [Bool.and_eq_true] at n1
  refine ⟨a, b, c, n1.1, fun t e => ?_, fun e => ?_⟩
  · subst e; simpa using n1.2
  · subst e; simpa using n2
theorem push_ok {s : SS} {L' : Lks} (h : lPush s L = .ok L') : L.1.1 < 64 ∧ L' = ((L.1.1 + 1, fun k => if k = L.1.1 then s else L.1.2 k), L.2) := by
  unfold lPush at h
  by_cases c : 64 ≤ L.1.1
  · rw [if_pos c] at h; exact absurd h (by simp)
  · rw [if_neg c] at h; cases h; exact ⟨by omega, rfl⟩
theorem FM.drop (h : FM U ls x L) (n : Nat) : FM U ls (setH x (x.2.2.1.1 - n)) ((L.1.1 - n, L.1.2), L.2) := by
  obtain ⟨h1, h2, h3, h4, h5⟩ := h
  refine ⟨by simp only [setH]; omega, by simp only; omega, fun k hk => h3 k (by simp only at hk; omega), h4, h5⟩
theorem FM.top (h : FM U ls x L) {n : Nat} (hn : n < L.1.1) : SMt U.2.2.2.1 (x.2.2.1.2 (x.2.2.1.1 - 1 - n)) (L.1.2 (L.1.1 - 1 - n)) ∧ STy U.1.2.2 (L.1.2 (L.1.1 - 1 - n)).1 := by
  have := h.2.2.1 (L.1.1 - 1 - n) (by omega)
  rw [h.1]; exact this
theorem FM.push (h : FM U ls x L) {s : Sl} {q : SS} {L' : Lks} (hp : lPush q L = .ok L') (hs : SMt U.2.2.2.1 s q) (ht : STy U.1.2.2 q.1) : FM U ls (setS x x.2.2.1.1 s) L' := by
  obtain ⟨c, e⟩ := push_ok hp
  obtain ⟨h1, h2, h3, h4, h5⟩ := h
  subst e
  refine ⟨by simp only [setS]; omega, by simp only; omega, fun k hk => ?_, h4, h5⟩
  simp only [setS] at hk ⊢
  by_cases ck : k = L.1.1
  · rw [if_pos (by omega), if_pos ck]; exact ⟨hs, ht⟩
  · rw [if_neg (by omega), if_neg ck]; exact h3 k (by omega)
/-- a reference of the topmost frame is a slot of looking's -/
theorem FM.rf (h : FM U ls x L) {s : Sl} (hs : s.2.1 ≠ 0) (hq : (∃ k, k < x.2.2.1.1 ∧ x.2.2.1.2 k = s) ∨ ∃ k, x.2.1 k = some s) : (∃ k, k < L.1.1 ∧ x.2.2.1.2 k = s ∧ isR (L.1.2 k).1 = true ∧ s.2.1 = hdT (L.1.2 k).1 ∧ s.2.2.2.1 = (L.1.2 k).2.1 ∧ s.2.2.2.2 = (L.1.2 k).2.2) ∨ ∃ k, k < ls.length ∧ x.2.1 k = some s ∧ L.2.1 k = true ∧ isR (ls.getD k []) = true ∧ s.2.1 = hdT (ls.getD k []) ∧ s.2.2.2.1 = L.2.2.1 k ∧ s.2.2.2.2 = L.2.2.2 k := by
  obtain ⟨h1, h2, h3, h4, h5⟩ := h
  have key : ∀ q : SS, SMt U.2.2.2.1 s q → isR q.1 = true ∧ s.2.1 = hdT q.1 ∧ s.2.2.2.1 = q.2.1 ∧ s.2.2.2.2 = q.2.2 := by
    intro q ⟨a1, a2, a3⟩
    by_cases c : isR q.1 = true
    · refine ⟨c, ?_, (a3 c).1, (a3 c).2⟩
      rw [a1, sR, if_pos c]
    · rw [sR, if_neg c] at a1; exact absurd a1 hs
  rcases hq with ⟨k, k1, k2⟩ | ⟨k, k1⟩
  · left
    have := key _ (by rw [← k2]; exact (h3 k (by omega)).1)
    exact ⟨k, by omega, k2, this.1, this.2.1, this.2.2.1, this.2.2.2⟩
  · right
    have kl : k < ls.length := by
      by_cases c : k < ls.length
      · exact c
      · rw [h5 k (by omega)] at k1; exact absurd k1 (by simp)
    have th : L.2.1 k = true := by
      by_cases c : L.2.1 k = true
      · exact c
      · exact absurd ((h4 k kl).2 (by simpa using c) s k1).1 hs
    obtain ⟨s', e1, e2⟩ := (h4 k kl).1 th
    rw [k1] at e1
    cases e1
    have := key _ e2
    exact ⟨k, kl, k1, th, this.1, this.2.1, this.2.2.1, this.2.2.2⟩
/-- no live reference has an origin -/
theorem FM.pt (h : FM U ls x L) {b : Nat} (hp : lPt ls L b false = false) {s : Sl} (hs : s.2.1 ≠ 0) (hq : (∃ k, k < x.2.2.1.1 ∧ x.2.2.1.2 k = s) ∨ ∃ k, x.2.1 k = some s) : ob s.2.2.2.1 b = false := by
  unfold lPt at hp
  simp only [Bool.or_eq_false_iff, List.any_eq_false, List.mem_range, Bool.not_false, Bool.true_or, Bool.and_true, Bool.not_eq_true] at hp
  rcases h.rf hs hq with ⟨k, k1, k2, k3, k4, k5, k6⟩ | ⟨k, k1, k2, k3, k4, k5, k6, k7⟩
  · rw [k5]; exact hp.1 k k1
  · rw [k6]
    have := hp.2 k k1
    rw [k3, Bool.true_and] at this
    exact this
theorem mtB_of {a b : Int64} (h : mt a b) : mtB a b = true := by
  obtain ⟨i, h1, h2⟩ := h
  unfold mtB
  rw [bne_iff_ne]
  intro e
  have : (a &&& b).toBitVec.getLsbD i = true := by
    rw [Int64.toBitVec_and, BitVec.getLsbD_and]
    unfold ob at h1 h2
    rw [h1, h2]; rfl
  rw [e] at this
  simp at this
/-- sole: each other live reference that meets it writes, and is not inside -/
theorem FM.sole (h : FM U ls x L) {o : Int64} (hp : lSole ls L o = true) {s : Sl} (hs : s.2.1 ≠ 0) (hq : (∃ k, k < x.2.2.1.1 ∧ x.2.2.1.2 k = s) ∨ ∃ k, x.2.1 k = some s) (hm : mt s.2.2.2.1 o) : s.2.1 = 9 ∧ s.2.2.2.2 = false := by
  unfold lSole at hp
  simp only [Bool.and_eq_true, List.all_eq_true, List.mem_range, Bool.or_eq_true, Bool.not_eq_true', Bool.and_eq_false_iff, beq_iff_eq] at hp
  have hb := mtB_of hm
  rcases h.rf hs hq with ⟨k, k1, k2, k3, k4, k5, k6⟩ | ⟨k, k1, k2, k3, k4, k5, k6, k7⟩
  · rw [k5] at hb
    rcases hp.1 k k1 with q | q
    · rw [hb] at q; exact absurd q (by simp)
    · exact ⟨by rw [k4]; exact q.1, by rw [k6]; exact q.2⟩
  · rw [k6] at hb
    rcases hp.2 k k1 with q | q
    · rcases q with q | q
      · rw [k3] at q; exact absurd q (by simp)
      · rw [hb] at q; exact absurd q (by simp)
    · exact ⟨by rw [k5]; exact q.1, by rw [k7]; exact q.2⟩
end
