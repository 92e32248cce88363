/-! the class's heap: copyOf -/
theorem Tr_of {H H' : Hp} (e : ∀ i, (H i).1 ≠ 0 → H' i = H i) : ∀ {d v : Nat}, Tr H d v → Tr H' d v
  | 0, _, t => t
  | d + 1, v, t => by
    obtain ⟨t1, t2, t3⟩ := t
    unfold Tr
    rw [e v t1]
    exact ⟨t1, t2, fun c hc => Tr_of e (t3 c hc)⟩
theorem szA_of {H H' : Hp} (e : ∀ i, (H i).1 ≠ 0 → H' i = H i) : ∀ {d v : Nat}, Tr H d v → szA H' d v = szA H d v
  | 0, _, _ => rfl
  | d + 1, v, t => by
    obtain ⟨t1, t2, t3⟩ := t
    unfold szA
    rw [e v t1]
    have : (H v).2.2.2.map (szA H' d) = (H v).2.2.2.map (szA H d) := List.map_congr_left (fun c hc => szA_of e (t3 c hc))
    rw [this]
theorem szA_pos {H : Hp} {d v : Nat} (t : Tr H d v) : 1 ≤ szA H d v := by
  cases d with
  | zero => exact absurd t (by simp [Tr])
  | succ d => unfold szA; split <;> omega
/-- a block of copies: o names what each is a copy of -/
def Bl (H H' : Hp) (lo hi : Nat) (o : Nat → Nat) : Prop := ∀ i, lo ≤ i → i < hi → (H (o i)).1 ≠ 0 ∧ (H' i).1 = (H (o i)).1 ∧ (H' i).2.1 = (H (o i)).2.1 ∧ (H' i).2.2.1 = (H (o i)).2.2.1 ∧ (H' i).2.2.2.map o = (H (o i)).2.2.2 ∧ (H' i).2.2.2.Nodup ∧ (∀ c ∈ (H' i).2.2.2, i < c ∧ c < hi) ∧ (∀ j, lo ≤ j → j < hi → ∀ c ∈ (H' i).2.2.2, c ∈ (H' j).2.2.2 → j = i)
theorem mk_H0 {z : St} {H : Hp} {u : Nat} {s : Int32} (h : HC z H u s) (h2 : u < 21600) {k : Int32} {x y : Int64} : HC (mkS z u k x y) H (u + 1) s := by
  refine ⟨by simp [mkS, si_1], by omega, by omega, by simp [mkS, si_1, sl_1]; exact h.2.2.2.1, fun i q => ?_⟩
  obtain ⟨a, b, c, ⟨d1, d2, d3⟩, d⟩ := h.2.2.2.2 i q
  have hiu : i ≠ u := by omega
  have ne : ∀ c ∈ (H i).2.2.2, c ≠ u := fun c hc => by have := (h.2.2.2.2 c (d c hc)).2.1; omega
  refine ⟨a, by omega, c, ⟨?_, fun q => ?_, fun q => ?_⟩, d⟩
  · simp [mkS, si_1, sl_1, hiu]; exact d1
  · obtain ⟨q1, q2, q3, q4⟩ := d2 q
    refine ⟨by simp [mkS, si_2, sl_2, hiu]; exact q1, by simp [mkS, si_2, sl_2, hiu]; exact q2, chn_of q3 (fun c hc => ?_), q4⟩
    have := ne c hc
    simp [mkS, si_1, sl_1, this]
  · obtain ⟨q1, q2⟩ := d3 q
    exact ⟨by simp [mkS, si_2, sl_2, hiu]; exact q1, by simp [mkS, si_2, sl_2, hiu]; exact q2⟩
/-- a node that stood aside is taken in -/
theorem HC.take {z : St} {H : Hp} {u : Nat} {s : Int32} (h : HC z H u s) {i : Nat} {x : Nd} (hd : (H i).1 = 0) (h0 : 0 < i) (h1 : i < u) (h2 : x.1 < 11) (h3 : NC z x i) (h4 : ∀ c ∈ x.2.2.2, (H c).1 ≠ 0) (h5 : x.1 ≠ 0) : HC z (upH H i x) u s := by
  refine ⟨h.1, h.2.1, h.2.2.1, h.2.2.2.1, fun j q => ?_⟩
  have al : ∀ c, (H c).1 ≠ 0 → (upH H i x c).1 ≠ 0 := fun c hc => by
    by_cases e : c = i
    · subst e; exact absurd hd hc
    · rw [upH_n e]; exact hc
  by_cases e : j = i
  · subst e
    rw [upH_s]
    exact ⟨h0, h1, h2, h3, fun c hc => al c (h4 c hc)⟩
  · rw [upH_n e] at q ⊢
    obtain ⟨a, b, c, d, g⟩ := h.2.2.2.2 j q
    exact ⟨a, b, c, d, fun c hc => al c (g c hc)⟩
/-- a write at a node that is not of the heap -/
theorem HC.off {z z' : St} {H : Hp} {u : Nat} {s : Int32} (h : HC z H u s) {i : Nat} (e0 : ∀ k j, k ≠ 90 → k ≠ 92 → z'.1 k j = z.1 k j) (e1 : ∀ j, j ≠ i → z'.1 92 j = z.1 92 j) (e2 : z'.2.1 91 = z.2.1 91) (e3 : ∀ j, (H j).1 ≠ 0 → z'.2.1 90 j = z.2.1 90 j) (hr : rootH H i ∨ z'.1 92 = z.1 92) : HC z' H u s := by
  refine ⟨by rw [e0 88 4 (by decide) (by decide)]; exact h.1, h.2.1, h.2.2.1, by rw [e0 88 6 (by decide) (by decide)]; exact h.2.2.2.1, fun j q => ?_⟩
  obtain ⟨a, b, c, ⟨d1, d2, d3⟩, d⟩ := h.2.2.2.2 j q
  refine ⟨a, b, c, ⟨by rw [e0 89 j (by decide) (by decide)]; exact d1, fun q' => ?_, fun q' => ?_⟩, d⟩
  · obtain ⟨q1, q2, q3, q4⟩ := d2 q'
    refine ⟨by rw [e2]; exact q1, by rw [e3 j q]; exact q2, chn_of q3 (fun c hc => ?_), q4⟩
    rcases hr with hr | hr
    · exact e1 c (fun e => hr j q (e ▸ hc))
    · rw [hr]
  · rw [e2, e3 j q]
    exact d3 q'
theorem chn_app {z z' : St} {c : Nat} : ∀ {ns : List Nat} {l : Nat} {x : Int32}, chn z x (ns ++ [l]) → (∀ i, i ≠ l → z'.1 92 i = z.1 92 i) → z'.1 92 l = nI c → z'.1 92 c = 0 → l ∉ ns → 0 < c → c < 21600 → chn z' x (ns ++ [l] ++ [c])
  | [], l, x, h, e, e1, e2, _, h1, h2 => by
    obtain ⟨a, b, c', _⟩ := h
    refine ⟨a, b, c', ?_⟩
    rw [e1]
    exact ⟨rfl, h1, h2, e2⟩
  | y :: ys, l, x, h, e, e1, e2, hn, h1, h2 => by
    obtain ⟨a, b, c', d⟩ := h
    refine ⟨a, b, c', ?_⟩
    rw [e y (fun q => hn (by simp [q]))]
    exact chn_app d e e1 e2 (fun q => hn (by simp [q])) h1 h2
