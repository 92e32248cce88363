/-! CLASS AND REFERENCE: each change of the heap, on both sides -/
section
variable {E : Ev} {H : Hp} {m : Nat} {ty phi : Nat → Nat} {Rn : Nat → Option Nat} {Hc : Hp} {z : St} {u : Nat} {s : Int32}
/-- what both heaps need of the types -/
def TyN (ty : Nat → Nat) (H : Hp) : Prop := (∀ v c, c ∈ kds H v → (H c).1 ≠ 0) ∧ (∀ v, (H v).1 ≠ 0 → ty v ≠ 256 → ∀ c, c ∈ kds H v → ty c ≠ 11)
theorem HT.tyn (hA : EvA E) (hN : NoA ty H) (ht : HT E H m ty) : TyN ty H := ⟨fun _ _ hc => (ht.al hc).2, fun v hv h c hc => (ht.2 v hv).2.1.na hA h (hN v hv) (ty c) (List.mem_map_of_mem hc)⟩
/-- a new number -/
theorem RC.leaf (r : RC H ty phi Rn Hc) (hc : HC z Hc u s) (ht : HT E H m ty) (hA : EvA E) (hN : NoA ty H) (hRn : ∀ j t, Rn j = some t → t < m) (hu : u < 21600) {k : Nat} {x y : Int64} (hk : k < 6) (hk0 : k ≠ 0) : ∃ phi' Hn, HC (mkS z u (nI k) x y) Hn (u + 1) s ∧ RC (upH H m (k, x, y, [])) (fun i => if i = m then k else ty i) phi' Rn Hn ∧ (∀ i, i < m → phi' i = phi i) ∧ phi' m = u := by
  have ni : ¬ inn k := fun q => by rcases q with q | q <;> omega
  have hH := mk_H hc hu (k := k) (x := x) (y := y) (nd := (k, x, y, [])) (by omega) rfl (fun q => absurd q ni) (fun _ => ⟨rfl, rfl, rfl⟩)
  have hw : ∀ v, (H v).1 ≠ 0 → v < m := fun v q => (ht.2 v q).1
  have tn := ht.tyn hA hN
  have km : ∀ i, m ≤ i → i < m + 1 → kds (upH H m (k, x, y, [])) i = [] := fun i a b => by rw [show i = m by omega, kds, upH_s]
  have ku : ∀ i, u ≤ i → i < u + 1 → kds (upH Hc u (k, x, y, [])) i = [] := fun i a b => by rw [show i = u by omega, kds, upH_s]
  refine r.new hH hw tn.1 tn.2 (fun i a b => ?_) (fun i q => ?_) (fun i q => ?_) hRn (fun i q => (hc.lt q).2.1) (fun i q => upH_n (by omega)) ⟨fun i a b => by omega, fun i j c a b _ _ h => ?_, fun i c a b h => ?_, fun i a b => ?_⟩ ⟨fun i j c a b _ _ h => ?_, fun i c a b h => ?_, fun i a b => ?_⟩ (by omega) ?_ (fun i a b _ c h => ?_) (fun i a b _ c h => ?_) (fun i a b _ => km i a b) (M := fun i j => i = m ∧ j = u) ⟨rfl, rfl⟩ (fun i j a b _ h => ?_)
  · rw [show i = m by omega, upH_s]; exact hk0
  · rw [upH_n (by omega), if_neg (by omega)]; exact ⟨rfl, rfl⟩
  · rw [upH_n (by omega)]
    by_cases c : (H i).1 = 0
    · exact c
    · have := hw i c; omega
  · rw [km i a b] at h; exact absurd h (by simp)
  · rw [km i a b] at h; exact absurd h (by simp)
  · rw [km i a b]; simp
  · rw [ku i a b] at h; exact absurd h (by simp)
  · rw [ku i a b] at h; exact absurd h (by simp)
  · rw [ku i a b]; simp
  · simp only [if_true]; omega
  · rw [km i a b] at h; exact absurd h (by simp)
  · rw [km i a b] at h; exact absurd h (by simp)
  · obtain ⟨e1, e2⟩ := h
    subst e1 e2
    refine ⟨Nat.le_refl _, by omega, .inr ⟨by simp only [if_true]; omega, by rw [upH_s, upH_s], fun _ => by rw [upH_s, upH_s]; exact ⟨rfl, rfl⟩, by unfold kds; rw [upH_s, upH_s], fun t c x h _ => ?_⟩⟩
    rw [kds, upH_s] at h; exact absurd h (by simp)
theorem RC.al (r : RC H ty phi Rn Hc) {v : Nat} (hv : (H v).1 ≠ 0) (h11 : ty v ≠ 11) : (Hc (phi v)).1 ≠ 0 := by
  rcases r.1 v hv h11 with h | h
  · omega
  · rw [h.2.1]; exact hv
/-- a new reference -/
theorem RC.ref (r : RC H ty phi Rn Hc) (hc : HC z Hc u s) (hu : u < 21600) (t : Nat) : HC (mkS z u (nI 8) 0 (lN (phi t))) (upH Hc u (8, 0, lN (phi t), [])) (u + 1) s ∧ RC H ty phi (fun j => if j = u then some t else Rn j) (upH Hc u (8, 0, lN (phi t), [])) := by
  have ni : ¬ inn 8 := fun q => by rcases q with q | q <;> omega
  refine ⟨mk_H hc hu (k := 8) (x := 0) (y := lN (phi t)) (nd := (8, 0, lN (phi t), [])) (by omega) rfl (fun q => absurd q ni) (fun _ => ⟨rfl, rfl, rfl⟩), ?_⟩
  have pne : ∀ v, (H v).1 ≠ 0 → ty v ≠ 11 → phi v ≠ u := fun v a b e => by have := (hc.lt (r.al a b)).2.1; omega
  refine ⟨fun v hv h11 => by rw [upH_n (pne v hv h11)]; exact r.1 v hv h11, r.2.1, fun w x q => ?_, fun w q => ?_⟩
  · by_cases c : w = u
    · subst c
      simp only [if_true, Option.some.injEq] at q
      subst q
      exact ⟨upH_s _ _ _, pne⟩
    · simp only [if_neg c] at q
      rw [upH_n c]; exact r.2.2.1 w x q
  · by_cases c : w = u
    · exact .inr ⟨t, by simp only [if_pos c]⟩
    · rw [upH_n c] at q
      rcases r.2.2.2 w q with h | ⟨x, h⟩
      · exact .inl h
      · exact .inr ⟨x, by simp only [if_neg c]; exact h⟩
/-- a reference is made to point elsewhere -/
theorem RC.point (r : RC H ty phi Rn Hc) (hc : HC z Hc u s) {w t0 : Nat} (hw : Rn w = some t0) (t : Nat) : HC (sl z 90 w (lN (phi t))) (upH Hc w (8, 0, lN (phi t), [])) u s ∧ RC H ty phi (fun j => if j = w then some t else Rn j) (upH Hc w (8, 0, lN (phi t), [])) := by
  obtain ⟨e, ne⟩ := r.2.2.1 w t0 hw
  have wa : (Hc w).1 ≠ 0 := by rw [e]; simp
  have ni : ¬ inn (Hc w).1 := by rw [e]; exact fun q => by rcases q with q | q <;> simp at q
  constructor
  · refine ⟨hc.1, hc.2.1, hc.2.2.1, hc.2.2.2.1, fun i q => ?_⟩
    have al : ∀ x, (Hc x).1 ≠ 0 → ((upH Hc w (8, 0, lN (phi t), [])) x).1 ≠ 0 := fun x hx => by
      by_cases c : x = w
      · rw [c, upH_s]; simp
      · rw [upH_n c]; exact hx
    by_cases c : i = w
    · subst c
      rw [upH_s]
      obtain ⟨a1, a2, a3, ⟨d1, _, d3⟩, _⟩ := hc.2.2.2.2 i wa
      rw [e] at d1 d3
      refine ⟨a1, a2, by simp, ⟨d1, fun q => absurd q (fun q => by rcases q with q | q <;> simp at q), fun _ => ⟨?_, by simp [sl_2]⟩⟩, fun c hc => absurd hc (by simp)⟩
      have := (d3 (fun q => by rcases q with q | q <;> simp at q)).1
      simp [sl_2]; exact this
    · rw [upH_n c] at q ⊢
      obtain ⟨a1, a2, a3, ⟨d1, d2, d3⟩, d⟩ := hc.2.2.2.2 i q
      refine ⟨a1, a2, a3, ⟨d1, fun g => ?_, fun g => ?_⟩, fun x hx => al x (d x hx)⟩
      · obtain ⟨q1, q2, q3, q4⟩ := d2 g
        exact ⟨by simp [sl_2]; exact q1, by simp [sl_2, c]; exact q2, chn_of q3 (fun _ _ => by rw [sl_1]), q4⟩
      · obtain ⟨q1, q2⟩ := d3 g
        exact ⟨by simp [sl_2]; exact q1, by simp [sl_2, c]; exact q2⟩
  · refine ⟨fun v hv h11 => by rw [upH_n (ne v hv h11)]; exact r.1 v hv h11, r.2.1, fun w' x q => ?_, fun w' q => ?_⟩
    · by_cases c : w' = w
      · subst c
        simp only [if_true, Option.some.injEq] at q
        subst q
        exact ⟨upH_s _ _ _, ne⟩
      · simp only [if_neg c] at q
        rw [upH_n c]; exact r.2.2.1 w' x q
    · by_cases c : w' = w
      · exact .inr ⟨t, by simp only [if_pos c]⟩
      · rw [upH_n c] at q
        rcases r.2.2.2 w' q with h | ⟨x, h⟩
        · exact .inl h
        · exact .inr ⟨x, by simp only [if_neg c]; exact h⟩
end
