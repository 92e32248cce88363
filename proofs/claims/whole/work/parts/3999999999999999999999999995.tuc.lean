/-! STORED COINS: one sum -/
theorem lN_add2 (a c : Nat) : lN a + lN c = lN (a + c) := by
  apply N_inj
  rw [N_add]
  have e : ∀ k, N (lN k) = k % 2 ^ 64 := fun k => by
    show (BitVec.ofNat 64 k).toNat = _
    rw [BitVec.toNat_ofNat]
  rw [e, e, e]
  omega
def rSo (rs : Nat → Int64 × Nat × Hp × Nat) (i : Nat) : Nat := nsum (rL (fCo (rs i).2.2.1) (rs i).2.2.2 0)
theorem tsum_g (h : Nat → Nat) : ∀ m r, tsum h m r = smG h ((List.range m).map (fun k => r + k))
  | 0, _ => rfl
  | m + 1, r => by
    rw [List.range_succ_eq_map, List.map_cons, List.map_map]
    show h r + tsum h m (r + 1) = h (r + 0) + smG h _
    rw [tsum_g h m (r + 1)]
    have : (List.range m).map (fun k => r + 1 + k) = (List.range m).map ((fun k => r + k) ∘ Nat.succ) := List.map_congr_left (fun k _ => by show r + 1 + k = r + (k + 1); omega)
    rw [this]; rfl
theorem tsum_0 (h : Nat → Nat) (m : Nat) : tsum h m 0 = smG h (List.range m) := by
  rw [tsum_g]
  have : (List.range m).map (fun k => 0 + k) = List.range m := by
    rw [show (fun k => 0 + k) = (id : Nat → Nat) from by funext k; show 0 + k = k; omega, List.map_id]
  rw [this]
theorem smG_map {α β : Type} (h : β → Nat) (φ : α → β) : ∀ l : List α, smG h (l.map φ) = smG (fun x => h (φ x)) l
  | [] => rfl
  | x :: l => by
    show h (φ x) + smG h (l.map φ) = h (φ x) + smG _ l
    rw [smG_map h φ l]
theorem smG_cg {α : Type} {f g : α → Nat} {l : List α} (h : ∀ v, v ∈ l → f v = g v) : smG f l = smG g l := Nat.le_antisymm (smG_le (fun v hv => Nat.le_of_eq (h v hv))) (smG_le (fun v hv => Nat.le_of_eq (h v hv).symm))
theorem nodup_map {α β : Type} {φ : α → β} : ∀ {l : List α}, l.Nodup → (∀ x y, x ∈ l → y ∈ l → φ x = φ y → x = y) → (l.map φ).Nodup
  | [], _, _ => by simp
  | x :: l, h, hi => by
    rw [List.map_cons, List.nodup_cons]
    rw [List.nodup_cons] at h
    refine ⟨fun hm => ?_, nodup_map h.2 (fun a c ha hc e => hi a c (List.mem_cons_of_mem _ ha) (List.mem_cons_of_mem _ hc) e)⟩
    obtain ⟨y, hy, e⟩ := List.mem_map.mp hm
    have := hi y x (List.mem_cons_of_mem _ hy) (List.mem_cons_self ..) e
    exact h.1 (this ▸ hy)
section
variable {E : Ev} {nr : Nat} {rs : Nat → Int64 × Nat × Hp × Nat} {so : Nat → Option Rsc}
theorem RsP.match (h : RsP E E.1 nr rs so) {r : Nat} {x : Rsc} (hr : r < 256) (e : so r = some x) : ∃ i, i < nr ∧ (rs i).1 = x.1 ∧ (rs i).2.1 = x.2.1 ∧ ResR E E.1 (rs i).2.2.1 (rs i).2.2.2 (rs i).2.1 x.2.2 := by
  obtain ⟨h1, h2, h3, h4, h5⟩ := h
  obtain ⟨i, i1, i2, i3⟩ := h2 r x hr e
  obtain ⟨_, r', x', q1, q2, q3, q4, q5⟩ := h1 i i1
  have er : r' = r := h4 r' r x' x q1 hr q2 e (by rw [q3, i2]) (by rw [q4, i3])
  subst er
  rw [q2] at e
  have ex := Option.some.inj e
  subst ex
  exact ⟨i, i1, i2, i3, q5⟩
theorem coins_sum (hA : EvA E) (h : RsP E E.1 nr rs so) (hp : ∀ i, i < nr → Pre (rs i).2.2.1 48 0 (rs i).2.2.2) : tsum (cSo so) 256 0 = tsum (rSo rs) nr 0 := by
  have val : ∀ i x, i < nr → ResR E E.1 (rs i).2.2.1 (rs i).2.2.2 (rs i).2.1 x → nsum (x.flatMap gCo) = rSo rs i := fun i x hi q => by
    unfold rSo
    rw [q.coins hA (hp i hi)]
  rw [tsum_0, tsum_0]
  apply Nat.le_antisymm
  · have key : ∀ r, ∃ i, r < 256 → (so r).isSome = true → i < nr ∧ cSo so r = rSo rs i ∧ ∀ x, so r = some x → (rs i).1 = x.1 ∧ (rs i).2.1 = x.2.1 := fun r => by
      by_cases c : r < 256
      · cases e : so r with
        | none => exact ⟨0, fun _ w => by cases w⟩
        | some x =>
          obtain ⟨i, i1, i2, i3, i4⟩ := h.match c e
          refine ⟨i, fun _ _ => ⟨i1, ?_, fun x' e' => ?_⟩⟩
          · unfold cSo; rw [e]; exact val i x.2.2 i1 i4
          · have := Option.some.inj e'
            subst this
            exact ⟨i2, i3⟩
      · exact ⟨0, fun w => absurd w c⟩
    have fil : smG (cSo so) (List.range 256) = smG (cSo so) ((List.range 256).filter (fun r => (so r).isSome)) := by
      rw [smG_cut (cSo so) (fun r => (so r).isSome) (List.range 256)]
      have : smG (cSo so) ((List.range 256).filter (fun r => !(so r).isSome)) = smG (fun _ => 0) ((List.range 256).filter (fun r => !(so r).isSome)) := smG_cg (fun r hr => by
        have := (List.mem_filter.mp hr).2
        unfold cSo
        cases e : so r with
        | none => rfl
        | some x => rw [e] at this; simp at this)
      rw [this]
      have z : ∀ l : List Nat, smG (fun _ => 0) l = 0 := fun l => by
        induction l with
        | nil => rfl
        | cons a l ih => show 0 + smG _ l = 0; rw [ih]
      rw [z]; omega
    rw [fil]
    have e1 : smG (cSo so) ((List.range 256).filter (fun r => (so r).isSome)) = smG (rSo rs) (((List.range 256).filter (fun r => (so r).isSome)).map (fun r => (key r).choose)) := by
      rw [smG_map]
      refine smG_cg (fun r hr => ?_)
      obtain ⟨m1, m2⟩ := List.mem_filter.mp hr
      exact ((key r).choose_spec (List.mem_range.mp m1) m2).2.1
    rw [e1]
    refine smG_sub (rSo rs) (nodup_map (List.Pairwise.filter _ List.nodup_range) (fun r r' hr hr' e => ?_)) (fun i hi => ?_)
    · obtain ⟨m1, m2⟩ := List.mem_filter.mp hr
      obtain ⟨m3, m4⟩ := List.mem_filter.mp hr'
      obtain ⟨x, ex⟩ := Option.isSome_iff_exists.mp m2
      obtain ⟨x', ex'⟩ := Option.isSome_iff_exists.mp m4
      have q := ((key r).choose_spec (List.mem_range.mp m1) m2).2.2 x ex
      have q' := ((key r').choose_spec (List.mem_range.mp m3) m4).2.2 x' ex'
      have e' : (key r).choose = (key r').choose := e
      rw [e'] at q
      exact h.2.2.2.1 r r' x x' (List.mem_range.mp m1) (List.mem_range.mp m3) ex ex' (by rw [← q.1, q'.1]) (by rw [← q.2, q'.2])
    · obtain ⟨r, hr, e⟩ := List.mem_map.mp hi
      obtain ⟨m1, m2⟩ := List.mem_filter.mp hr
      have := ((key r).choose_spec (List.mem_range.mp m1) m2).1
      rw [← e]
      exact List.mem_range.mpr this
  · have key : ∀ i, ∃ r, i < nr → r < 256 ∧ cSo so r = rSo rs i ∧ ∃ x, so r = some x ∧ x.1 = (rs i).1 ∧ x.2.1 = (rs i).2.1 := fun i => by
      by_cases c : i < nr
      · obtain ⟨_, r, x, q1, q2, q3, q4, q5⟩ := h.1 i c
        refine ⟨r, fun _ => ⟨q1, ?_, x, q2, q3, q4⟩⟩
        unfold cSo; rw [q2]; exact val i x.2.2 c q5
      · exact ⟨0, fun w => absurd w c⟩
    have e1 : smG (rSo rs) (List.range nr) = smG (cSo so) ((List.range nr).map (fun i => (key i).choose)) := by
      rw [smG_map]
      exact smG_cg (fun i hi => ((key i).choose_spec (List.mem_range.mp hi)).2.1.symm)
    rw [e1]
    refine smG_sub (cSo so) (nodup_map List.nodup_range (fun i j hi hj e => ?_)) (fun r hr => ?_)
    · obtain ⟨_, _, x, a1, a2, a3⟩ := (key i).choose_spec (List.mem_range.mp hi)
      obtain ⟨_, _, x', b1, b2, b3⟩ := (key j).choose_spec (List.mem_range.mp hj)
      have e' : (key i).choose = (key j).choose := e
      rw [e', b1] at a1
      have := Option.some.inj a1
      subst this
      exact h.2.2.1 i j (List.mem_range.mp hi) (List.mem_range.mp hj) (by rw [← a2, b2]) (by rw [← a3, b3])
    · obtain ⟨i, hi, e⟩ := List.mem_map.mp hr
      rw [← e]
      exact List.mem_range.mpr ((key i).choose_spec (List.mem_range.mp hi)).1
end
