/-! Origins that looking knows never have the last bit -/
def Gd {α : Type} (p : α → Prop) (r : Px α) : Prop := ∀ x, r = .ok x → p x
theorem Gd.b {α β : Type} {q : β → Prop} {r : Px α} {g : α → Px β} (h : ∀ x, r = .ok x → Gd q (g x)) : Gd q (r >>= g) := by
  intro y e
  cases r with
  | error w => cases e
  | ok x => exact h x rfl y e
theorem Gd.n {β : Type} {q : β → Prop} {b : Bool} {w : Nat} {g : Unit → Px β} (h : Gd q (g ())) : Gd q (nd_ b w >>= g) := Gd.b (fun _ _ => h)
theorem Gd.k {α : Type} {q : α → Prop} {x : α} (h : q x) : Gd q (.ok x) := fun y e => by cases e; exact h
theorem Gd.i {α : Type} {q : α → Prop} {c : Prop} [Decidable c] {r s : Px α} (h1 : c → Gd q r) (h2 : ¬ c → Gd q s) : Gd q (if c then r else s) := by
  by_cases d : c
  · rw [if_pos d]; exact h1 d
  · rw [if_neg d]; exact h2 d
theorem o063 : ob 0 63 = false := by decide
theorem rO63 {t : Ty} {o : Int64} (h : ob o 63 = false) : ob (rO t o) 63 = false := by
  unfold rO
  by_cases c : isR t = true
  · rw [if_pos c]; exact h
  · rw [if_neg c]; exact o063
theorem bit63 : ∀ a, a < 63 → ob (bitO a) 63 = false := by decide
section
variable {U : Md} {L M : Lks} {q : SS × Lks} {t : Ty}
theorem take63 (h : N63 L) (e : lTake L = .ok q) : N63 q.2 ∧ ob q.1.2.1 63 = false := by
  unfold lTake at e
  by_cases c : L.1.1 = 0
  · rw [if_pos c] at e; cases e
  · rw [if_neg c] at e; cases e
    exact ⟨⟨fun k hk => h.1 k (by have : k < L.1.1 - 1 := hk; omega), h.2⟩, h.1 _ (by omega)⟩
theorem takeT63 (h : N63 L) : Gd N63 (lTakeT t L) := by
  unfold lTakeT
  exact Gd.b (fun q e => Gd.n (Gd.k (take63 h e).1))
theorem takeR63 {to : Option Ty} {w : Bool} (h : N63 L) : Gd (fun q => N63 q.2 ∧ ob q.1.2.1 63 = false) (lTakeR to w L) := by
  unfold lTakeR
  exact Gd.b (fun q e => Gd.n (Gd.n (Gd.k (take63 h e))))
theorem push63 (h : N63 L) {s : SS} (hs : ob s.2.1 63 = false) : Gd N63 (lPush s L) := by
  unfold lPush
  intro M e
  by_cases c : 64 ≤ L.1.1
  · rw [if_pos c] at e; cases e
  · rw [if_neg c] at e; cases e
    refine ⟨fun k hk => ?_, h.2⟩
    have hk' : k < L.1.1 + 1 := hk
    show ob (if k = L.1.1 then s else L.1.2 k).2.1 63 = false
    by_cases d : k = L.1.1
    · rw [if_pos d]; exact hs
    · rw [if_neg d]; exact h.1 k (by omega)
theorem set63 (h : N63 L) {a : Nat} {x : Bool} {o : Int64} {i : Bool} (ho : x = true → ob o 63 = false) : N63 (lSetL L a x o i) := by
  refine ⟨h.1, fun k hk => ?_⟩
  have hk' : (if k = a then x else L.2.1 k) = true := hk
  show ob (if k = a then o else L.2.2.1 k) 63 = false
  by_cases d : k = a
  · rw [if_pos d] at hk' ⊢; exact ho hk'
  · rw [if_neg d] at hk' ⊢; exact h.2 k hk'
theorem takes63 : ∀ (ts : List Ty) (L : Lks), N63 L → Gd N63 (aTakes ts L)
  | [], L, h => Gd.k h
  | t :: ts, L, h => Gd.b (fun M e => takes63 ts M (takeT63 h M e))
theorem gives63 : ∀ (ss : List SS) (L : Lks), N63 L → (∀ s, s ∈ ss → ob s.2.1 63 = false) → Gd N63 (aGives ss L)
  | [], L, h, _ => Gd.k h
  | s :: ss, L, h, hs => Gd.b (fun M e => gives63 ss M (push63 h (hs s (List.mem_cons_self ..)) M e) (fun s' m => hs s' (List.mem_cons_of_mem _ m)))
theorem orO63 : ∀ (ss : List SS), (∀ s, s ∈ ss → ob s.2.1 63 = false) → ob (orO ss) 63 = false
  | [], _ => o063
  | s :: ss, hs => by
    show ob (s.2.1 ||| orO ss) 63 = false
    rw [ob_or, hs s (List.mem_cons_self ..), orO63 ss (fun s' m => hs s' (List.mem_cons_of_mem _ m))]; rfl
theorem aLocal63 {o a : Nat} {ls : List Ty} (h : N63 L) (ha : o ≠ 11 → o ≠ 12 → o ≠ 13 → a < 63) : Gd N63 (aLocal U ls o a L) := by
  unfold aLocal
  dsimp only
  refine Gd.i (fun _ => ?_) (fun _ => ?_)
  · exact Gd.b (fun q e => Gd.n (Gd.n (Gd.n (Gd.k (set63 (take63 h e).1 (fun _ => rO63 (take63 h e).2))))))
  refine Gd.b (fun _ ec => ?_)
  have hl : L.2.1 a = true := by
    cases c : L.2.1 a with
    | true => rfl
    | false => rw [c] at ec; cases ec
  refine Gd.i (fun _ => ?_) (fun _ => ?_)
  · exact Gd.n (Gd.n (push63 (s := (ls.getD a [], rO (ls.getD a []) (L.2.2.1 a), rI (ls.getD a []) (L.2.2.2 a))) h (rO63 (h.2 a hl))))
  refine Gd.i (fun _ => ?_) (fun _ => ?_)
  · refine Gd.n (Gd.b (fun M e => ?_))
    have hM : N63 M := push63 (s := (ls.getD a [], rO (ls.getD a []) (L.2.2.1 a), rI (ls.getD a []) (L.2.2.2 a))) h (rO63 (h.2 a hl)) M e
    exact Gd.k (set63 hM (fun q => absurd q (by simp)))
  · exact Gd.n (Gd.n (push63 h (bit63 a (ha (by assumption) (by assumption) (by assumption)))))
theorem aRef63 {o a b : Nat} {ls : List Ty} (h : N63 L) : Gd N63 (aRef U ls o a b L) := by
  unfold aRef
  refine Gd.i (fun _ => ?_) (fun _ => ?_)
  · exact Gd.b (fun q e => push63 (takeR63 h q e).1 (takeR63 h q e).2)
  refine Gd.i (fun _ => ?_) (fun _ => ?_)
  · exact Gd.b (fun q e => Gd.n (push63 (takeR63 h q e).1 o063))
  refine Gd.i (fun _ => ?_) (fun _ => ?_)
  · exact Gd.b (fun q e => Gd.b (fun M e2 => Gd.n (Gd.n (Gd.k (takeT63 (takeR63 h q e).1 M e2)))))
  · exact Gd.b (fun q e => push63 (takeR63 h q e).1 (takeR63 h q e).2)
theorem aPack63 {o a : Nat} (h : N63 L) : Gd N63 (aPack U o a L) := by
  unfold aPack
  refine Gd.i (fun _ => ?_) (fun _ => ?_)
  · exact Gd.b (fun M e => push63 (takes63 _ _ h M e) o063)
  · exact Gd.b (fun M e => gives63 _ _ (takeT63 h M e) (fun s m => by
      obtain ⟨t, _, rfl⟩ := List.mem_map.mp m
      exact o063))
theorem aCall63 {f a : Nat} {ls : List Ty} (h : N63 L) : Gd N63 (aCall U ls f a L) := by
  unfold aCall
  refine Gd.b (fun M e => ?_)
  obtain ⟨i1, i2⟩ := aTakes_ok _ _ _ e
  rw [List.length_reverse] at i1 i2
  have em : M.1.1 = L.1.1 - (tksOf U a).length := by rw [i2]
  have ha : ∀ s, s ∈ (List.range (tksOf U a).length).map (fun k => L.1.2 (M.1.1 + k)) → ob s.2.1 63 = false := fun s m => by
    obtain ⟨k, hk, rfl⟩ := List.mem_map.mp m
    have := List.mem_range.mp hk
    exact h.1 _ (by omega)
  refine Gd.n (Gd.n (Gd.n (gives63 _ _ (takes63 _ _ h M e) (fun s m => ?_))))
  obtain ⟨t, _, rfl⟩ := List.mem_map.mp m
  refine rO63 ?_
  by_cases c : hdT t = 9
  · rw [if_pos c]; exact orO63 _ (fun s m => ha s (List.mem_filter.mp m).1)
  · rw [if_neg c]; exact orO63 _ ha
theorem aNum63 {o : Nat} (h : N63 L) : Gd N63 (aNum U o L) := by
  unfold aNum
  refine Gd.i (fun _ => ?_) (fun _ => ?_)
  · exact Gd.b (fun q e => Gd.n (Gd.b (fun M e2 => push63 (takeT63 (take63 h e).1 M e2) o063)))
  refine Gd.i (fun _ => ?_) (fun _ => ?_)
  · exact Gd.b (fun M e => Gd.b (fun q e2 => Gd.n (push63 (take63 (takeT63 h M e) e2).1 o063)))
  refine Gd.i (fun _ => ?_) (fun _ => ?_)
  · exact Gd.b (fun M e => push63 (takeT63 h M e) o063)
  refine Gd.i (fun _ => ?_) (fun _ => ?_)
  · exact Gd.b (fun q e => Gd.n (Gd.b (fun M e2 => Gd.n (push63 (takeT63 (take63 h e).1 M e2) o063))))
  refine Gd.i (fun _ => ?_) (fun _ => ?_)
  · exact Gd.b (fun q e => Gd.n (Gd.b (fun M e2 => push63 (takeT63 (take63 h e).1 M e2) o063)))
  · exact Gd.b (fun q e => Gd.n (push63 (take63 h e).1 o063))
theorem aRes63 {f o a : Nat} {ls : List Ty} (h : N63 L) : Gd N63 (aRes U ls f o a L) := by
  unfold aRes
  refine Gd.b (fun M e => Gd.n (Gd.n (Gd.n (Gd.n ?_))))
  have hM := takeT63 h M e
  refine Gd.i (fun _ => ?_) (fun _ => ?_)
  · exact push63 hM o063
  refine Gd.i (fun _ => ?_) (fun _ => ?_)
  · exact push63 hM o063
  refine Gd.i (fun _ => ?_) (fun _ => ?_)
  · exact Gd.k hM
  · exact push63 hM (bit63 (48 + a % 15) (by omega))
theorem aVec63 {o a b : Nat} {ls : List Ty} (h : N63 L) : Gd N63 (aVec U ls o a b L) := by
  unfold aVec
  dsimp only
  refine Gd.i (fun _ => ?_) (fun _ => ?_)
  · exact Gd.b (fun M e => push63 (takeT63 h M e) o063)
  refine Gd.i (fun _ => ?_) (fun _ => ?_)
  · exact Gd.b (fun M e => push63 (takes63 _ _ h M e) o063)
  · have op : ∀ (c : Prop) [Decidable c] (t : Ty) (L : Lks), N63 L → Gd N63 (if c then lTakeT t L else .ok L) := fun c _ t L hL => by
      by_cases d : c
      · rw [if_pos d]; exact takeT63 hL
      · rw [if_neg d]; exact Gd.k hL
    refine Gd.b (fun M1 e1 => Gd.b (fun M2 e2 => Gd.b (fun M3 e3 => Gd.b (fun q e4 => Gd.n ?_))))
    have h3 := op _ _ _ (op _ _ _ (op _ _ _ h M1 e1) M2 e2) M3 e3
    obtain ⟨q1, q2⟩ := takeR63 h3 q e4
    refine Gd.i (fun _ => ?_) (fun _ => ?_)
    · exact push63 q1 o063
    refine Gd.i (fun _ => ?_) (fun _ => ?_)
    · exact push63 q1 o063
    refine Gd.i (fun _ => ?_) (fun _ => ?_)
    · exact push63 q1 q2
    · exact Gd.k q1
theorem aOp63 {f o a b : Nat} (h : N63 L) (h40 : (locOf U f).length ≤ 40) (hi : InOk U f o a b) : Gd N63 (aOp U f o a b L) := by
  unfold aOp
  dsimp only
  refine Gd.i (fun _ => ?_) (fun _ => ?_)
  · exact Gd.b (fun q e => Gd.n (Gd.k (take63 h e).1))
  refine Gd.i (fun _ => ?_) (fun _ => ?_)
  · unfold aBack; exact Gd.n (Gd.n (Gd.n (Gd.k h)))
  refine Gd.i (fun _ => ?_) (fun _ => ?_)
  · refine Gd.b (fun M e => Gd.n (Gd.k ?_))
    by_cases c : 2 < o
    · rw [if_pos c] at e; exact takeT63 h M e
    · rw [if_neg c] at e; cases e; exact h
  refine Gd.i (fun _ => ?_) (fun _ => ?_)
  · exact push63 h o063
  refine Gd.i (fun _ => ?_) (fun _ => ?_)
  · exact aLocal63 h (fun _ _ _ => by have := hi.2.1 (by omega) (by omega); omega)
  refine Gd.i (fun _ => ?_) (fun _ => ?_)
  · exact aRef63 h
  refine Gd.i (fun _ => ?_) (fun _ => ?_)
  · exact aPack63 h
  refine Gd.i (fun _ => ?_) (fun _ => ?_)
  · exact aCall63 h
  refine Gd.i (fun _ => ?_) (fun _ => ?_)
  · exact Gd.k h
  refine Gd.i (fun _ => ?_) (fun _ => ?_)
  · exact aNum63 h
  refine Gd.i (fun _ => ?_) (fun _ => ?_)
  · exact takeT63 h
  refine Gd.i (fun _ => ?_) (fun _ => ?_)
  · exact push63 h o063
  refine Gd.i (fun _ => ?_) (fun _ => ?_)
  · exact aRes63 h
  · exact aVec63 h
end
