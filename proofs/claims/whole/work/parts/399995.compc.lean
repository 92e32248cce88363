/-! THE MACHINE'S STATE: resources, references -/
section
variable {E : Ev} {H : Hp} {m : Nat} {ty : Nat → Nat} {fr : Nat → Fm} {nf na : Nat} {ak : Nat → Ask} {hd : Nat → Option Nat}
def upA (ak : Nat → Ask) (j : Nat) (x : Ask) : Nat → Ask := fun k => if k = j then x else ak k
theorem upA_s (ak : Nat → Ask) (j : Nat) (x : Ask) : upA ak j x j = x := by simp [upA]
theorem upA_n {ak : Nat → Ask} {j k : Nat} {x : Ask} (h : k ≠ j) : upA ak j x k = ak k := by simp [upA, h]
theorem MJ0.at2 (k : Nat) : LvA fr nf na ak hd 2 0 k = if k < na ∧ (ak k).1 = 3 ∧ (ak k).2.2.2.2.1 = true then some (ak k).2.2.2.2.2 else none := by
  rw [lv2]
  by_cases c : k < na ∧ (ak k).1 = 3 ∧ (ak k).2.2.2.2.1 = true
  · rw [if_pos ⟨rfl, c⟩, if_pos c]
  · rw [if_neg (fun q => c q.2), if_neg c]
/-- an entry's balance changes; or one that is no resource that is there -/
theorem MJ0.bal (I : MJ0 E H m ty fr nf na ak hd) {j : Nat} (hj : j < na) (h1 : (ak j).1 ≠ 3) (x : Ask) (hx : x.1 = (ak j).1) (hx2 : x.2.2.1 = (ak j).2.2.1) : MJ0 E H m ty fr nf na (upA ak j x) hd := by
  have key : ∀ k, k ≠ j → upA ak j x k = ak k := fun k q => upA_n q
  refine I.ask na (upA ak j x) hd (fun a d k => (a, d, k)) (fun _ _ _ _ => rfl) (fun k k1 k2 k3 => ?_) (fun k X q => ⟨3, 0, k, by rw [MJ0.at3]; exact q, rfl⟩) (fun k k1 k2 k3 => ?_) (Nat.le_refl _) (fun k _ => ?_) (fun k k1 k2 k3 => ?_)
  · by_cases c : k = j
    · subst c; rw [upA_s, hx] at k2; exact absurd k2 h1
    · rw [key k c] at k2 k3 ⊢
      exact ⟨2, 0, k, by rw [MJ0.at2, if_pos ⟨k1, k2, k3⟩], rfl⟩
  · by_cases c : k = j
    · subst c; exact absurd k2 h1
    · rw [key k c]; exact .inl ⟨k1, k2, k3, rfl⟩
  · by_cases c : k = j
    · subst c; rw [upA_s, hx2]
    · rw [key k c]
  · by_cases c : k = j
    · subst c; rw [upA_s, hx] at k2; exact absurd k2 h1
    · rw [key k c] at k2 k3 ⊢
      exact (I.2.2.2.2.1 k k1 k2 k3).2
/-- a new entry, of an account, a module, or a resource that is not there -/
theorem MJ0.newE (I : MJ0 E H m ty fr nf na ak hd) (x : Ask) (hx : ¬ (x.1 = 3 ∧ x.2.2.2.2.1 = true)) : MJ0 E H m ty fr nf (na + 1) (upA ak na x) hd := by
  have key : ∀ k, k < na → upA ak na x k = ak k := fun k q => upA_n (by omega)
  refine I.ask (na + 1) (upA ak na x) hd (fun a d k => (a, d, k)) (fun _ _ _ _ => rfl) (fun k k1 k2 k3 => ?_) (fun k X q => ⟨3, 0, k, by rw [MJ0.at3]; exact q, rfl⟩) (fun k k1 k2 k3 => ?_) (by omega) (fun k k1 => by rw [key k k1]) (fun k k1 k2 k3 => ?_)
  · by_cases c : k = na
    · subst c; rw [upA_s] at k2 k3; exact absurd ⟨k2, k3⟩ hx
    · rw [key k (by omega)] at k2 k3 ⊢
      exact ⟨2, 0, k, by rw [MJ0.at2, if_pos ⟨by omega, k2, k3⟩], rfl⟩
  · rw [key k k1]; exact .inl ⟨by omega, k2, k3, rfl⟩
  · by_cases c : k = na
    · subst c; rw [upA_s] at k2 k3; exact absurd ⟨k2, k3⟩ hx
    · rw [key k (by omega)] at k2 k3 ⊢
      exact (I.2.2.2.2.1 k (by omega) k2 k3).2
/-- a new entry, of a resource whose tree lies in hand 0 -/
theorem MJ0.newR {X : Nat} (I : MJ0 E H m ty fr nf na ak (fun i => if i = 0 then some X else none)) (x : Ask) (hx : x.2.2.2.2.2 = X) (ht : ty X = 256 + x.2.2.1) : MJ0 E H m ty fr nf (na + 1) (upA ak na x) (fun _ => none) := by
  have key : ∀ k, k < na → upA ak na x k = ak k := fun k q => upA_n (by omega)
  refine I.ask (na + 1) (upA ak na x) (fun _ => none) (fun a d k => if a = 3 then (2, 0, na) else (a, d, k)) (fun a d k q => if_neg (by omega)) (fun k k1 k2 k3 => ?_) (fun k Y q => absurd q (by simp)) (fun k k1 k2 k3 => ?_) (by omega) (fun k k1 => by rw [key k k1]) (fun k k1 k2 k3 => ?_)
  · by_cases c : k = na
    · subst c
      rw [upA_s, hx]
      exact ⟨3, 0, 0, by rw [MJ0.at3, if_pos rfl], if_pos rfl⟩
    · rw [key k (by omega)] at k2 k3 ⊢
      exact ⟨2, 0, k, by rw [MJ0.at2, if_pos ⟨by omega, k2, k3⟩], if_neg (by omega)⟩
  · rw [key k k1]; exact .inl ⟨by omega, k2, k3, rfl⟩
  · by_cases c : k = na
    · subst c; rw [upA_s, hx]; exact ht
    · rw [key k (by omega)] at k2 k3 ⊢
      exact (I.2.2.2.2.1 k (by omega) k2 k3).2
/-- 47: the value in hand 0 becomes a resource -/
theorem MJ0.put {X : Nat} (I : MJ0 E H m ty fr nf na ak (fun i => if i = 0 then some X else none)) {j : Nat} (hj : j < na) (h0 : (ak j).2.2.2.2.1 = false) (ht : ty X = 256 + (ak j).2.2.1) : MJ0 E H m ty fr nf na (upA ak j ((ak j).1, (ak j).2.1, (ak j).2.2.1, (ak j).2.2.2.1, true, X)) (fun _ => none) := by
  refine I.ask na _ (fun _ => none) (fun a d k => if a = 3 then (2, 0, j) else (a, d, k)) (fun a d k q => if_neg (by omega)) (fun k k1 k2 k3 => ?_) (fun k Y q => absurd q (by simp)) (fun k k1 k2 k3 => ?_) (Nat.le_refl _) (fun k k1 => ?_) (fun k k1 k2 k3 => ?_)
  · by_cases c : k = j
    · subst c
      rw [upA_s]
      exact ⟨3, 0, 0, by rw [MJ0.at3, if_pos rfl], if_pos rfl⟩
    · rw [upA_n c] at k2 k3 ⊢
      exact ⟨2, 0, k, by rw [MJ0.at2, if_pos ⟨k1, k2, k3⟩], if_neg (by omega)⟩
  · by_cases c : k = j
    · subst c; rw [h0] at k3; exact absurd k3 (by simp)
    · rw [upA_n c]; exact .inl ⟨k1, k2, k3, rfl⟩
  · by_cases c : k = j
    · subst c; rw [upA_s]
    · rw [upA_n c]
  · by_cases c : k = j
    · subst c; rw [upA_s]; exact ht
    · rw [upA_n c] at k2 k3 ⊢
      exact (I.2.2.2.2.1 k k1 k2 k3).2
/-- 48: a resource is taken away, into hand 0 -/
theorem MJ0.tak (I : MJ0 E H m ty fr nf na ak (fun _ => none)) {j : Nat} (hj : j < na) (h3 : (ak j).1 = 3) (h1 : (ak j).2.2.2.2.1 = true) (hr : E.2.2.1 (fr (nf - 1)).1.1 (fr (nf - 1)).1.2.1 = true) (hf : ∀ s, s.2.1 ≠ 0 → ((∃ k, k < (fr (nf - 1)).2.2.1.1 ∧ (fr (nf - 1)).2.2.1.2 k = s) ∨ ∃ k, (fr (nf - 1)).2.1 k = some s) → ob s.2.2.2.1 (E.2.2.2.1 (fr (nf - 1)).1.1 (ak j).2.2.1) = false) (b : Int64) (y : Nat) : MJ0 E H m ty fr nf na (upA ak j ((ak j).1, (ak j).2.1, (ak j).2.2.1, b, false, y)) (fun i => if i = 0 then some (ak j).2.2.2.2.2 else none) := by
  have hl : LvA fr nf na ak (fun _ => none) 2 0 j = some (ak j).2.2.2.2.2 := by rw [MJ0.at2, if_pos ⟨hj, h3, h1⟩]
  have hrs : rsA E fr nf (nf - 1) = true := by
    unfold rsA
    rw [hr, decide_eq_true (by have := I.nf0; omega)]; rfl
  refine I.ask na _ _ (fun a d k => if a = 2 ∧ k = j then (3, 0, 0) else (a, d, k)) (fun a d k q => if_neg (by omega)) (fun k k1 k2 k3 => ?_) (fun k Y q => ?_) (fun k k1 k2 k3 => ?_) (Nat.le_refl _) (fun k k1 => ?_) (fun k k1 k2 k3 => ?_)
  · by_cases c : k = j
    · subst c; rw [upA_s] at k3; exact absurd k3 (by simp)
    · rw [upA_n c] at k2 k3 ⊢
      exact ⟨2, 0, k, by rw [MJ0.at2, if_pos ⟨k1, k2, k3⟩], if_neg (fun q => c q.2)⟩
  · by_cases c : k = 0
    · simp only [if_pos c, Option.some.injEq] at q
      exact ⟨2, 0, j, by rw [hl, q], by rw [if_pos ⟨rfl, rfl⟩, c]⟩
    · simp only [if_neg c] at q; exact absurd q (by simp)
  · by_cases c : k = j
    · subst c
      right
      intro e s hs hsub
      obtain ⟨e1, _, e2, _⟩ := I.1.lemB hrs hl e s (by have := hs.1; omega) hs hsub
      subst e1
      obtain ⟨_, s2, s3⟩ := hs
      have : ob s.2.2.2.1 (E.2.2.2.1 (fr (nf - 1)).1.1 (ak k).2.2.1) = false := hf s s2 (by
        rcases s3 with s3 | s3 | ⟨i, s3⟩
        · exact .inl s3
        · exact .inr s3
        · rw [I.g0 i] at s3; exact absurd s3 (by simp))
      unfold rbA at e2
      rw [this] at e2
      exact absurd e2 (by simp)
    · rw [upA_n c]; exact .inl ⟨k1, k2, k3, rfl⟩
  · by_cases c : k = j
    · subst c; rw [upA_s]
    · rw [upA_n c]
  · by_cases c : k = j
    · subst c; rw [upA_s] at k3; exact absurd k3 (by simp)
    · rw [upA_n c] at k2 k3 ⊢
      exact (I.2.2.2.2.1 k k1 k2 k3).2
/-- 14, 15: a reference to a local's value -/
theorem MJ0.rLoc (I : MJ0 E H m ty fr nf na ak hd) {k : Nat} {s q : Sl} (hk : (fr (nf - 1)).2.1 k = some s) (h0 : s.2.1 = 0) (h1 : q.1 = s.1) (hb : ob q.2.2.2.1 k = true) : rOk E H fr nf na ak hd q := by
  have k40 := (I.sl.2 k s hk).1
  refine ⟨k, hb, .inl ⟨k40, s.1, by rw [I.at1, hk, Option.bind_some, pln0 h0], by rw [h1]; exact Sub.refl H s.1, fun _ => h1⟩⟩
/-- 50, 51: a reference to a resource -/
theorem MJ0.rRes (I : MJ0 E H m ty fr nf na ak hd) {j : Nat} {q : Sl} (hj : j < na) (h3 : (ak j).1 = 3) (ht : (ak j).2.2.2.2.1 = true) (hr : E.2.2.1 (fr (nf - 1)).1.1 (fr (nf - 1)).1.2.1 = true) (h48 : 48 ≤ E.2.2.2.1 (fr (nf - 1)).1.1 (ak j).2.2.1) (h1 : q.1 = (ak j).2.2.2.2.2) (hb : ob q.2.2.2.1 (E.2.2.2.1 (fr (nf - 1)).1.1 (ak j).2.2.1) = true) : rOk E H fr nf na ak hd q := by
  refine ⟨_, hb, .inr (.inr ⟨h48, ?_, j, _, by rw [MJ0.at2, if_pos ⟨hj, h3, ht⟩], rfl, by rw [h1]; exact Sub.refl H _, fun _ => h1⟩)⟩
  unfold rsA
  rw [hr, decide_eq_true (by have := I.nf0; omega)]; rfl
/-- 16, 17, 54, 55: a reference to a part; 11: a reference once more; 20: one that does not write -/
theorem MJ0.rPart (I : MJ0 E H m ty fr nf na ak hd) {s q : Sl} (hs : RfA fr nf (nf - 1) s) (h1 : q.1 ∈ kds H s.1) (h9 : q.2.1 = 9 → s.2.1 = 9) (hO : q.2.2.2.1 = s.2.2.2.1) (hI : q.2.2.2.2 = true) : rOk E H fr nf na ak hd q := (I.1.2.2.2.1 _ s hs).mono (Sub.one h1) h9 (fun b h => by rw [hO]; exact h) (fun h => by rw [hI] at h; exact absurd h (by decide))
theorem MJ0.rSame (I : MJ0 E H m ty fr nf na ak hd) {s q : Sl} (hs : RfA fr nf (nf - 1) s) (h1 : q.1 = s.1) (h9 : q.2.1 = 9 → s.2.1 = 9) (hO : q.2.2.2.1 = s.2.2.2.1) (hI : q.2.2.2.2 = s.2.2.2.2) : rOk E H fr nf na ak hd q := (I.1.2.2.2.1 _ s hs).mono (by rw [h1]; exact Sub.refl H s.1) h9 (fun b h => by rw [hO]; exact h) (fun h => ⟨by rw [← hI]; exact h, h1⟩)
end
