/-! stored values: a row of entries (kind, high, low, children, type), each before its children; the class's load -/
abbrev Ent : Type := Nat × Int64 × Int64 × Nat × Nat
/-- what a type asks of a node: kind, low, its children's types (first to last) -/
def LT (SF : Nat → List Nat) (t k : Nat) (hl : Int64) (cs : List Nat) : Prop := (1 ≤ t ∧ t ≤ 5 ∧ k = t ∧ cs = []) ∨ (t = 256 ∧ k = 10 ∧ cs = []) ∨ (256 < t ∧ t < 2 ^ 32 ∧ k = 6 ∧ hl = lN (t - 256) ∧ cs = SF (t - 256)) ∨ (2 ^ 32 ≤ t ∧ k = 7 ∧ ∀ c ∈ cs, c = t - 2 ^ 32)
def hty : List Ent → Nat
  | [] => 0
  | e :: _ => e.2.2.2.2
def TyE (SF : Nat → List Nat) : Nat → List Ent → Prop
  | 0, _ => False
  | d + 1, E => ∃ e Es, E = e :: List.flatten Es ∧ Es.length = e.2.2.2.1 ∧ e.2.2.2.1 ≤ 256 ∧ LT SF e.2.2.2.2 e.1 e.2.2.1 (Es.map hty) ∧ ∀ x ∈ Es, TyE SF d x
theorem LT.inn {SF : Nat → List Nat} {t k : Nat} {hl : Int64} {cs : List Nat} (h : LT SF t k hl cs) : k < 11 ∧ k ≠ 0 ∧ k ≠ 8 ∧ (¬ inn k → cs = []) := by
  rcases h with ⟨a, b, c, d⟩ | ⟨a, b, c⟩ | ⟨a, b, c, d, e⟩ | ⟨a, b, c⟩
  · exact ⟨by omega, by omega, by omega, fun _ => d⟩
  · exact ⟨by omega, by omega, by omega, fun _ => c⟩
  · exact ⟨by omega, by omega, by omega, fun q => absurd (.inl c) q⟩
  · exact ⟨by omega, by omega, by omega, fun q => absurd (.inr b) q⟩
/-- the class's rows hold entries from a place on -/
def RowsC (z : St) (E : List Ent) (a : Nat) : Prop := ∀ i (h : i < E.length), z.1 12 (a + i) = nI E[i].1 ∧ z.2.1 13 (a + i) = (if inn E[i].1 then lN E[i].2.2.2.1 else E[i].2.1) ∧ z.2.1 14 (a + i) = (if inn E[i].1 then 0 else E[i].2.2.1)
theorem RowsC.of {z z' : St} {E : List Ent} {a : Nat} (h : RowsC z E a) (e1 : z'.1 12 = z.1 12) (e2 : z'.2.1 13 = z.2.1 13) (e3 : z'.2.1 14 = z.2.1 14) : RowsC z' E a := fun i hi => by rw [e1, e2, e3]; exact h i hi
theorem RowsC.cons {z : St} {e : Ent} {E : List Ent} {a : Nat} (h : RowsC z (e :: E) a) : (z.1 12 a = nI e.1 ∧ z.2.1 13 a = (if inn e.1 then lN e.2.2.2.1 else e.2.1) ∧ z.2.1 14 a = (if inn e.1 then 0 else e.2.2.1)) ∧ RowsC z E (a + 1) := by
  refine ⟨h 0 (by simp), fun i hi => ?_⟩
  have := h (i + 1) (by simp; omega)
  rw [show a + (i + 1) = a + 1 + i by omega] at this
  exact this
theorem RowsC.app {z : St} {E G : List Ent} {a : Nat} (h : RowsC z (E ++ G) a) : RowsC z E a ∧ RowsC z G (a + E.length) := by
  refine ⟨fun i hi => ?_, fun i hi => ?_⟩
  · have := h i (by simp; omega)
    rw [List.getElem_append_left hi] at this
    exact this
  · have := h (E.length + i) (by simp; omega)
    rw [List.getElem_append_right (by omega)] at this
    simp only [Nat.add_sub_cancel_left] at this
    rw [show a + (E.length + i) = a + E.length + i by omega] at this
    exact this
/-- new nodes: a block of its own, a forest -/
def Bk (H : Hp) (lo hi : Nat) : Prop := ∀ i, lo ≤ i → i < hi → (H i).1 ≠ 0 ∧ (H i).2.2.2.Nodup ∧ (∀ c ∈ (H i).2.2.2, i < c ∧ c < hi) ∧ (∀ j, lo ≤ j → j < hi → ∀ c ∈ (H i).2.2.2, c ∈ (H j).2.2.2 → j = i)
theorem Bl.bk {H H' : Hp} {lo hi : Nat} {o : Nat → Nat} (h : Bl H H' lo hi o) : Bk H' lo hi := fun i i1 i2 => by
  obtain ⟨b1, b2, _, _, _, b6, b7, b8⟩ := h i i1 i2
  exact ⟨by rw [b2]; exact b1, b6, b7, b8⟩
def LTb (SF : Nat → List Nat) (H : Hp) (g : Nat → Nat) (lo hi : Nat) : Prop := ∀ i, lo ≤ i → i < hi → LT SF (g i) (H i).1 (H i).2.2.1 ((H i).2.2.2.reverse.map g)
theorem nodup_rev {l : List Nat} (h : l.Nodup) : l.reverse.Nodup := by
  unfold List.Nodup at h ⊢
  rw [List.pairwise_reverse]
  exact h.imp (fun h e => h e.symm)
/-- where the children's entries begin -/
def sts : Nat → List (List Ent) → List Nat
  | _, [] => []
  | a, E :: Es => a :: sts (a + E.length) Es
theorem sts_len : ∀ (a : Nat) (Es : List (List Ent)), (sts a Es).length = Es.length
  | _, [] => rfl
  | a, E :: Es => by simp [sts, sts_len]
theorem sts_app : ∀ (a : Nat) (Es : List (List Ent)) (x : List Ent), sts a (Es ++ [x]) = sts a Es ++ [a + Es.flatten.length]
  | _, [], _ => by simp [sts]
  | a, E :: Es, x => by
    simp only [List.cons_append, sts, sts_app, List.flatten_cons, List.length_append, Nat.add_assoc]
theorem zip_len {α β : Type} {as : List α} {bs : List β} {a : α} {b : β} (h : as.length = bs.length) : (as ++ [a]).zip (bs ++ [b]) = as.zip bs ++ [(a, b)] := by
  rw [List.zip_append h]
  rfl
theorem sts_in : ∀ (a : Nat) (Es : List (List Ent)) (p : Nat × List Ent), p ∈ (sts a Es).zip Es → a ≤ p.1 ∧ p.1 + p.2.length ≤ a + Es.flatten.length
  | _, [], p, h => absurd h (by simp [sts])
  | a, E :: Es, p, h => by
    simp only [sts, List.zip_cons_cons, List.mem_cons] at h
    rw [List.flatten_cons, List.length_append]
    rcases h with h | h
    · subst h; simp
    · have := sts_in _ _ p h
      omega
theorem sts_mem : ∀ (a : Nat) (Es : List (List Ent)) (c : Nat), c ∈ sts a Es → ∃ x, (c, x) ∈ (sts a Es).zip Es
  | _, [], c, h => absurd h (by simp [sts])
  | a, E :: Es, c, h => by
    simp only [sts, List.mem_cons] at h
    simp only [sts, List.zip_cons_cons, List.mem_cons]
    rcases h with h | h
    · exact ⟨E, .inl (by rw [h])⟩
    · obtain ⟨x, hx⟩ := sts_mem _ _ c h
      exact ⟨x, .inr hx⟩
theorem sts_cov : ∀ (a : Nat) (Es : List (List Ent)) (i : Nat), a ≤ i → i < a + Es.flatten.length → ∃ p, p ∈ (sts a Es).zip Es ∧ p.1 ≤ i ∧ i < p.1 + p.2.length
  | _, [], i, h1, h2 => absurd h2 (by simp; omega)
  | a, E :: Es, i, h1, h2 => by
    rw [List.flatten_cons, List.length_append] at h2
    simp only [sts, List.zip_cons_cons, List.mem_cons]
    by_cases q : i < a + E.length
    · exact ⟨(a, E), .inl rfl, h1, q⟩
    · obtain ⟨p, h, g⟩ := sts_cov (a + E.length) Es i (by omega) (by omega)
      exact ⟨p, .inr h, g⟩
theorem sts_dis : ∀ (a : Nat) (Es : List (List Ent)) (p q : Nat × List Ent) (i : Nat), p ∈ (sts a Es).zip Es → q ∈ (sts a Es).zip Es → p.1 ≤ i → i < p.1 + p.2.length → q.1 ≤ i → i < q.1 + q.2.length → p = q
  | _, [], p, q, i, h, _, _, _, _, _ => absurd h (by simp [sts])
  | a, E :: Es, p, q, i, h, g, h1, h2, h3, h4 => by
    simp only [sts, List.zip_cons_cons, List.mem_cons] at h g
    rcases h with h | h
    · rcases g with g | g
      · rw [h, g]
      · have := sts_in _ _ q g
        subst h
        simp only at h1 h2
        omega
    · have := sts_in _ _ p h
      rcases g with g | g
      · subst g
        simp only at h3 h4
        omega
      · exact sts_dis _ _ p q i h g h1 h2 h3 h4
theorem sts_nodup : ∀ (a : Nat) (Es : List (List Ent)), (∀ x ∈ Es, x ≠ []) → (sts a Es).Nodup
  | _, [], _ => by simp [sts]
  | a, E :: Es, h => by
    simp only [sts, List.nodup_cons]
    refine ⟨fun q => ?_, sts_nodup _ _ (fun x hx => h x (by simp [hx]))⟩
    obtain ⟨x, hx⟩ := sts_mem _ _ a q
    have := (sts_in _ _ _ hx).1
    have e : E.length ≠ 0 := fun e => h E (by simp) (List.eq_nil_of_length_eq_zero e)
    simp only at this
    omega
/-- the heap holds entries as a tree from node u on -/
def Enc (H : Hp) : Nat → Nat → List Ent → Prop
  | 0, _, _ => False
  | d + 1, u, E => ∃ e Es, E = e :: List.flatten Es ∧ Es.length = e.2.2.2.1 ∧ (H u = (e.1, e.2.1, e.2.2.1, (sts (u + 1) Es).reverse) ∧ e.1 ≠ 0) ∧ ∀ p ∈ (sts (u + 1) Es).zip Es, Enc H d p.1 p.2
theorem Enc_ne {H : Hp} {d u : Nat} {E : List Ent} (h : Enc H d u E) : E ≠ [] := by
  cases d with
  | zero => exact absurd h (by simp [Enc])
  | succ d => obtain ⟨e, Es, h1, _⟩ := h; rw [h1]; simp
theorem Enc_of {H H' : Hp} : ∀ {d u : Nat} {E : List Ent}, Enc H d u E → (∀ i, u ≤ i → i < u + E.length → H' i = H i) → Enc H' d u E
  | 0, _, _, h, _ => h
  | d + 1, u, E, h, e => by
    obtain ⟨x, Es, h1, h2, h3, h4⟩ := h
    have hl : E.length = 1 + Es.flatten.length := by rw [h1, List.length_cons]; omega
    refine ⟨x, Es, h1, h2, ⟨by rw [e u (by omega) (by omega)]; exact h3.1, h3.2⟩, fun p hp => ?_⟩
    have := sts_in _ _ p hp
    exact Enc_of (h4 p hp) (fun i i1 i2 => e i (by omega) (by omega))
theorem mem_zip_r {α β : Type} {as : List α} {bs : List β} {p : α × β} (h : p ∈ as.zip bs) : p.2 ∈ bs := (List.of_mem_zip (a := p.1) (b := p.2) h).2
theorem Enc_nonil {H : Hp} {d u : Nat} {Es : List (List Ent)} (h4 : ∀ p ∈ (sts u Es).zip Es, Enc H d p.1 p.2) : ∀ x ∈ Es, x ≠ [] := by
  intro x hx
  obtain ⟨k, hk, e⟩ := List.getElem_of_mem hx
  have : ((sts u Es)[k]'(by rw [sts_len]; exact hk), x) ∈ (sts u Es).zip Es := by
    rw [List.mem_iff_getElem]
    refine ⟨k, by rw [List.length_zip, sts_len]; omega, ?_⟩
    rw [List.getElem_zip, e]
  exact Enc_ne (h4 _ this)
theorem Enc_bk {H : Hp} : ∀ {d u : Nat} {E : List Ent}, Enc H d u E → ∀ i, u ≤ i → i < u + E.length → (H i).1 ≠ 0 ∧ (H i).2.2.2.Nodup ∧ (∀ c ∈ (H i).2.2.2, i < c ∧ c < u + E.length) ∧ (∀ j, u ≤ j → j < u + E.length → ∀ c ∈ (H i).2.2.2, c ∈ (H j).2.2.2 → j = i)
  | 0, _, _, h => absurd h (by simp [Enc])
  | d + 1, u, E, h => by
    obtain ⟨x, Es, h1, h2, h3, h4⟩ := h
    have hl : E.length = 1 + Es.flatten.length := by rw [h1, List.length_cons]; omega
    have nn := Enc_nonil h4
    have ku : (H u).2.2.2 = (sts (u + 1) Es).reverse := by rw [h3.1]
    have top : ∀ c ∈ (H u).2.2.2, ∃ y, (c, y) ∈ (sts (u + 1) Es).zip Es := fun c hc => by
      rw [ku, List.mem_reverse] at hc
      exact sts_mem _ _ c hc
    have low : ∀ i, u < i → i < u + E.length → ∃ p, p ∈ (sts (u + 1) Es).zip Es ∧ p.1 ≤ i ∧ i < p.1 + p.2.length := fun i i1 i2 => sts_cov (u + 1) Es i (by omega) (by omega)
    have cross : ∀ j, u < j → j < u + E.length → ∀ c ∈ (H u).2.2.2, c ∉ (H j).2.2.2 := by
      intro j j1 j2 c c1 c2
      obtain ⟨y, hy⟩ := top c c1
      obtain ⟨p, hp, p1, p2⟩ := low j j1 j2
      have b := ((Enc_bk (h4 p hp) j p1 p2).2.2.1 c c2)
      have yn : y.length ≠ 0 := fun e => nn y (mem_zip_r hy) (List.eq_nil_of_length_eq_zero e)
      have := sts_dis _ _ p (c, y) c hp hy (by omega) b.2 (by simp) (by simp; omega)
      rw [this] at p1
      simp only at p1
      omega
    intro i i1 i2
    by_cases e : i = u
    · subst e
      refine ⟨by rw [h3.1]; exact h3.2, by rw [ku]; exact nodup_rev (sts_nodup _ _ nn), fun c hc => ?_, fun j j1 j2 c c1 c2 => ?_⟩
      · obtain ⟨y, hy⟩ := top c hc
        have := sts_in _ _ _ hy
        have yn : y.length ≠ 0 := fun e => nn y (mem_zip_r hy) (List.eq_nil_of_length_eq_zero e)
        simp only at this
        omega
      · by_cases q : j = i
        · exact q
        · exact absurd c2 (cross j (by omega) j2 c c1)
    · obtain ⟨p, hp, p1, p2⟩ := low i (by omega) i2
      obtain ⟨b0, b1, b2, b3⟩ := Enc_bk (h4 p hp) i p1 p2
      have pin := sts_in _ _ p hp
      refine ⟨b0, b1, fun c hc => ⟨(b2 c hc).1, by have := (b2 c hc).2; omega⟩, fun j j1 j2 c c1 c2 => ?_⟩
      by_cases q : j = u
      · subst q; exact absurd c1 (cross i (by omega) i2 c c2)
      · obtain ⟨r, hr, r1, r2⟩ := low j (by omega) j2
        have c3 := (Enc_bk (h4 r hr) j r1 r2).2.2.1 c c2
        have c4 := b2 c c1
        have := sts_dis _ _ p r c hp hr (by omega) c4.2 (by omega) c3.2
        subst this
        exact b3 j r1 r2 c c1 c2
