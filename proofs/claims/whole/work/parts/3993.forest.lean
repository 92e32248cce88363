/-! FORESTS: nodes under a node, roots -/
abbrev kds (H : Hp) (v : Nat) : List Nat := (H v).2.2.2
def SubN (H : Hp) : Nat → Nat → Nat → Prop
  | 0, a, b => a = b
  | n + 1, a, b => a = b ∨ ∃ c, c ∈ kds H a ∧ SubN H n c b
def Sub (H : Hp) (a b : Nat) : Prop := ∃ n, SubN H n a b
theorem Sub.refl (H : Hp) (a : Nat) : Sub H a a := ⟨0, rfl⟩
theorem Sub.kid {H : Hp} {a c b : Nat} (h : c ∈ kds H a) (g : Sub H c b) : Sub H a b := by
  obtain ⟨n, g⟩ := g
  exact ⟨n + 1, .inr ⟨c, h, g⟩⟩
theorem Sub.one {H : Hp} {a c : Nat} (h : c ∈ kds H a) : Sub H a c := Sub.kid h (Sub.refl H c)
theorem SubN.trans {H : Hp} : ∀ {n a b c : Nat}, SubN H n a b → Sub H b c → Sub H a c
  | 0, a, b, c, h, g => by
    have e : a = b := h
    rw [e]; exact g
  | n + 1, a, b, c, h, g => by
    rcases h with h | ⟨x, hx, h⟩
    · rw [h]; exact g
    · exact Sub.kid hx (SubN.trans h g)
theorem Sub.trans {H : Hp} {a b c : Nat} (h : Sub H a b) (g : Sub H b c) : Sub H a c := by
  obtain ⟨n, h⟩ := h
  exact SubN.trans h g
theorem SubN.last {H : Hp} : ∀ {n a b : Nat}, SubN H n a b → a = b ∨ ∃ y, Sub H a y ∧ b ∈ kds H y
  | 0, a, b, h => .inl h
  | n + 1, a, b, h => by
    rcases h with h | ⟨x, hx, h⟩
    · exact .inl h
    · rcases SubN.last h with e | ⟨y, h1, h2⟩
      · exact .inr ⟨a, Sub.refl H a, e ▸ hx⟩
      · exact .inr ⟨y, Sub.kid hx h1, h2⟩
theorem Sub.last {H : Hp} {a b : Nat} (h : Sub H a b) : a = b ∨ ∃ y, Sub H a y ∧ b ∈ kds H y := by
  obtain ⟨n, h⟩ := h
  exact SubN.last h
theorem Sub.first {H : Hp} {a b : Nat} (h : Sub H a b) : a = b ∨ ∃ c, c ∈ kds H a ∧ Sub H c b := by
  obtain ⟨n, h⟩ := h
  cases n with
  | zero => exact .inl h
  | succ n =>
    rcases h with h | ⟨c, h1, h2⟩
    · exact .inl h
    · exact .inr ⟨c, h1, n, h2⟩
/-- each node has one parent at most, and stands below it -/
def Fo (H : Hp) : Prop := (∀ v w c, c ∈ kds H v → c ∈ kds H w → v = w) ∧ ∃ m : Nat → Nat, ∀ v c, c ∈ kds H v → m c < m v
def Rt (H : Hp) (x : Nat) : Prop := ∀ v, x ∉ kds H v
theorem SubN.mu {H : Hp} {m : Nat → Nat} (hm : ∀ v c, c ∈ kds H v → m c < m v) : ∀ {n a b : Nat}, SubN H n a b → a = b ∨ m b < m a
  | 0, a, b, h => .inl h
  | n + 1, a, b, h => by
    rcases h with h | ⟨x, hx, h⟩
    · exact .inl h
    · have := hm a x hx
      rcases SubN.mu hm h with e | e
      · right; rw [← e]; exact this
      · right; omega
theorem Sub.anti {H : Hp} (f : Fo H) {a b : Nat} (h : Sub H a b) (g : Sub H b a) : a = b := by
  obtain ⟨_, m, hm⟩ := f
  obtain ⟨n, h⟩ := h
  obtain ⟨k, g⟩ := g
  rcases SubN.mu hm h with e | e
  · exact e
  · rcases SubN.mu hm g with e' | e'
    · exact e'.symm
    · omega
theorem Sub.root {H : Hp} {a x : Nat} (hx : Rt H x) (h : Sub H a x) : a = x := by
  rcases h.last with e | ⟨y, _, h2⟩
  · exact e
  · exact absurd h2 (hx y)
theorem SubN.cmp {H : Hp} (f : Fo H) {b t : Nat} (g : Sub H b t) : ∀ {n a : Nat}, SubN H n a t → Sub H a b ∨ Sub H b a
  | 0, a, h => by
    have e : a = t := h
    rw [e]; exact .inr g
  | n + 1, a, h => by
    rcases h with h | ⟨x, hx, h⟩
    · rw [h]; exact .inr g
    · rcases SubN.cmp f g h with q | q
      · exact .inl (Sub.kid hx q)
      · rcases q.last with e | ⟨y, h1, h2⟩
        · rw [e]; exact .inl (Sub.one hx)
        · rw [f.1 a y x hx h2]; exact .inr h1
theorem Sub.cmp {H : Hp} (f : Fo H) {a b t : Nat} (h : Sub H a t) (g : Sub H b t) : Sub H a b ∨ Sub H b a := by
  obtain ⟨n, h⟩ := h
  exact SubN.cmp f g h
theorem Sub.up {H : Hp} (f : Fo H) {x b t : Nat} (hx : Rt H x) (h : Sub H x t) (g : Sub H b t) : Sub H x b := by
  rcases h.cmp f g with q | q
  · exact q
  · rw [q.root hx]; exact Sub.refl H x
theorem Sub.roots {H : Hp} (f : Fo H) {x y t : Nat} (hx : Rt H x) (hy : Rt H y) (h : Sub H x t) (g : Sub H y t) : x = y := (h.up f hx g).root hy
/-- a change within a region that is closed, of which only E may be named from without -/
theorem SubN.stay {H : Hp} {R E : Nat → Prop} (h2 : ∀ y, R y → ∀ c, c ∈ kds H y → R c ∧ ¬ E c) : ∀ {n c t : Nat}, R c → ¬ E c → SubN H n c t → R t ∧ ¬ E t
  | 0, c, t, r, e, h => by
    have q : c = t := h
    rw [← q]; exact ⟨r, e⟩
  | n + 1, c, t, r, e, h => by
    rcases h with h | ⟨x, hx, h⟩
    · rw [← h]; exact ⟨r, e⟩
    · exact SubN.stay h2 (h2 c r x hx).1 (h2 c r x hx).2 h
theorem SubN.reg {H H' : Hp} {R E : Nat → Prop} (h1 : ∀ y, ¬ R y → kds H' y = kds H y) (h2 : ∀ y, R y → ∀ c, c ∈ kds H' y → R c ∧ ¬ E c) {t : Nat} (ht : ¬ R t ∨ E t) : ∀ {n x : Nat}, SubN H' n x t → Sub H x t
  | 0, x, h => by
    have q : x = t := h
    rw [q]; exact Sub.refl H t
  | n + 1, x, h => by
    rcases h with h | ⟨c, hc, h⟩
    · rw [h]; exact Sub.refl H t
    · by_cases r : R x
      · obtain ⟨a, b⟩ := SubN.stay h2 (h2 x r c hc).1 (h2 x r c hc).2 h
        rcases ht with q | q
        · exact absurd a q
        · exact absurd q b
      · rw [h1 x r] at hc
        exact Sub.kid hc (SubN.reg h1 h2 ht h)
theorem Sub.reg {H H' : Hp} {R E : Nat → Prop} (h1 : ∀ y, ¬ R y → kds H' y = kds H y) (h2 : ∀ y, R y → ∀ c, c ∈ kds H' y → R c ∧ ¬ E c) (h3 : ∀ y, R y → ∀ c, c ∈ kds H y → R c ∧ ¬ E c) {x t : Nat} (ht : ¬ R t ∨ E t) : Sub H' x t ↔ Sub H x t := by
  constructor
  · intro ⟨n, h⟩
    exact SubN.reg h1 h2 ht h
  · intro ⟨n, h⟩
    exact SubN.reg (fun y q => (h1 y q).symm) h3 ht h
