/-! BOTH OBJECTS IN ONE STATE: cells of the class, cells of the reference -/
def inC (k : Nat) : Prop := k < 337 ∨ 513 ≤ k
def inR (k : Nat) : Prop := 337 ≤ k ∧ k < 513
/-- only good cells were changed, and their links lead to good cells -/
def Rg (G : Nat → Prop) (z0 z : St) : Prop := (∀ k, ¬ G k → z.1 k = z0.1 k ∧ z.2.1 k = z0.2.1 k ∧ z.2.2 k = z0.2.2 k) ∧ ∀ k j q, G k → z.2.2 k j = some q → G q
/-- links of good cells lead to good cells -/
def LkG (G : Nat → Prop) (z : St) : Prop := ∀ k j q, G k → z.2.2 k j = some q → G q
theorem rg_0 {G : Nat → Prop} {z : St} (h : LkG G z) : Rg G z z := ⟨fun _ _ => ⟨rfl, rfl, rfl⟩, h⟩
theorem rg_kp (G : Nat → Prop) (z0 : St) : Kp (Rg G z0) G := by
  refine ⟨fun z k j v h g => ⟨fun k' c => ?_, h.2⟩, fun z k j v h g => ⟨fun k' c => ?_, h.2⟩, fun z k j o h g ho => ⟨fun k' c => ?_, fun k' j' q g' e => ?_⟩, fun z k f a b m h g => ⟨fun k' c => ?_, h.2⟩, fun z k f a b m h g => ⟨fun k' c => ?_, h.2⟩, fun z k j q h g e => h.2 k j q g e⟩
  · have ne : k' ≠ k := fun e => c (e ▸ g)
    exact ⟨by funext j'; show (if k' = k then _ else z.1 k' j') = _; rw [if_neg ne, (h.1 k' c).1], (h.1 k' c).2⟩
  · have ne : k' ≠ k := fun e => c (e ▸ g)
    exact ⟨(h.1 k' c).1, by funext j'; show (if k' = k then _ else z.2.1 k' j') = _; rw [if_neg ne, (h.1 k' c).2.1], (h.1 k' c).2.2⟩
  · have ne : k' ≠ k := fun e => c (e ▸ g)
    exact ⟨(h.1 k' c).1, (h.1 k' c).2.1, by funext j'; show (if k' = k then _ else z.2.2 k' j') = _; rw [if_neg ne, (h.1 k' c).2.2]⟩
  · replace e : (if k' = k then (if j' = j then o else z.2.2 k j') else z.2.2 k' j') = some q := e
    by_cases c : k' = k
    · rw [if_pos c] at e
      by_cases c2 : j' = j
      · rw [if_pos c2] at e; exact ho q e
      · rw [if_neg c2] at e; exact h.2 k j' q g e
    · rw [if_neg c] at e; exact h.2 k' j' q g' e
  · have ne : k' ≠ k := fun e => c (e ▸ g)
    exact ⟨by funext j'; show (if k' = k then _ else z.1 k' j') = _; rw [if_neg ne, (h.1 k' c).1], (h.1 k' c).2⟩
  · have ne : k' ≠ k := fun e => c (e ▸ g)
    exact ⟨(h.1 k' c).1, by funext j'; show (if k' = k then _ else z.2.1 k' j') = _; rw [if_neg ne, (h.1 k' c).2.1], (h.1 k' c).2.2⟩
theorem lk_kp (n : Nat) : Kp (fun z => lk z n) (fun q => q < n ∨ q = CBK) := by
  refine ⟨fun z k j v h _ => h, fun z k j v h _ => h, fun z k j o h _ ho => ?_, fun z k f a b m h _ => h, fun z k f a b m h _ => h, fun z k j q h _ e => h k j q e⟩
  cases o with
  | none => exact lk_sq0 h
  | some v => exact lk_sq1 h (ho v rfl)
/-- what is kept of both objects beside their contents -/
def Kpt (n : Nat) (z : St) : Prop := lk z n ∧ LkG inC z ∧ LkG inR z
/-- the same reference's cells -/
def EqR (z z' : St) : Prop := ∀ k, 337 ≤ k → k < 513 → z'.1 k = z.1 k ∧ z'.2.1 k = z.2.1 k ∧ z'.2.2 k = z.2.2 k
/-- the same class's cells -/
def EqC (z z' : St) : Prop := ∀ k, k < 337 ∨ 513 ≤ k → z'.1 k = z.1 k ∧ z'.2.1 k = z.2.1 k ∧ z'.2.2 k = z.2.2 k
/-- a method of the class, one of the reference: what they leave alone -/
def KeC {α : Type} (n : Nat) (C : St → Option (St × α)) : Prop := ∀ z, 0 < n → lk z n → LkG inC z → LkP (fun w => lk w n) (C z) ∧ LkP (Rg inC z) (C z)
def KeM {α : Type} (n : Nat) (M : St → Option (St × α)) : Prop := ∀ z, 337 < n → lk z n → LkG inR z → LkP (fun w => lk w n) (M z) ∧ LkP (Rg inR z) (M z)
section
variable {α : Type} {n : Nat} {z z' : St} {r : α}
theorem rg_eqR (h : Rg inC z z') : EqR z z' := fun k a b => h.1 k (fun c => by unfold inC at c; omega)
theorem rg_eqC (h : Rg inR z z') : EqC z z' := fun k a => h.1 k (fun c => by unfold inR at c; omega)
theorem lkG_R (f : EqR z z') (h : LkG inR z) : LkG inR z' := fun k j q g e => h k j q g (by rw [← (f k g.1 g.2).2.2]; exact e)
theorem lkG_C (f : EqC z z') (h : LkG inC z) : LkG inC z' := fun k j q g e => h k j q g (by rw [← (f k g).2.2]; exact e)
/-- a method of the class, then one of the reference: over one state. L: what a side has of the layout -/
theorem bothS {R : St → St → Prop} {L : St → Prop} {C M : St → Option (St × α)} (hn : 513 ≤ n)
    (hs : ∀ z y, R z y → ∃ z' y' r, C y = some (y', r) ∧ M z = some (z', r) ∧ R z' y')
    (hL : ∀ z y, R z y → L z ∧ L y) (hR : ∀ z y z', R z y → L z' → EqR z z' → R z' y) (hC : ∀ z y y', R z y → L y' → EqC y y' → R z y')
    (kC : KeC n C) (kM : KeM n M) (h : R z z) (k : Kpt n z) : ∃ z1 z2 r, C z = some (z1, r) ∧ M z1 = some (z2, r) ∧ R z2 z2 ∧ Kpt n z2 := by
  obtain ⟨w, z1, r, a1, a2, a3⟩ := hs z z h
  have kc := kC z (by omega) k.1 k.2.1
  have f1 := kc.2 z1 r a1
  have e1 := rg_eqR f1
  have k1 : Kpt n z1 := ⟨kc.1 z1 r a1, f1.2, lkG_R e1 k.2.2⟩
  obtain ⟨z2, y2, r2, b1, b2, b3⟩ := hs z1 z (hR z z z1 h (hL _ _ a3).2 e1)
  rw [a1] at b1
  obtain ⟨c1, c2⟩ := Prod.mk.inj (Option.some.inj b1)
  subst c1 c2
  have km := kM z1 (by omega) k1.1 k1.2.2
  have f2 := km.2 z2 r b2
  have e2 := rg_eqC f2
  exact ⟨z1, z2, r, a1, b2, hC z2 z1 z2 b3 (hL _ _ b3).1 e2, ⟨km.1 z2 r b2, lkG_C e2 k1.2.1, f2.2⟩⟩
end
