/-! THE CLASS'S HEAP: nodes as (kind, high, low, children, last first) -/
abbrev Nd : Type := Nat × Int64 × Int64 × List Nat
abbrev Hp : Type := Nat → Nd
def upH (H : Hp) (i : Nat) (x : Nd) : Hp := fun j => if j = i then x else H j
theorem upH_s (H : Hp) (i : Nat) (x : Nd) : upH H i x i = x := by simp [upH]
theorem upH_n {H : Hp} {i j : Nat} {x : Nd} (h : j ≠ i) : upH H i x j = H j := by simp [upH, h]
abbrev inn (k : Nat) : Prop := k = 6 ∨ k = 7
def chn (z : St) : Int32 → List Nat → Prop
  | x, [] => x = 0
  | x, c :: cs => x = nI c ∧ 0 < c ∧ c < 21600 ∧ chn z (z.1 92 c) cs
theorem chn_of {z z' : St} : ∀ {cs : List Nat} {x : Int32}, chn z x cs → (∀ c ∈ cs, z'.1 92 c = z.1 92 c) → chn z' x cs
  | [], _, h, _ => h
  | c :: cs, x, h, e => by
    refine ⟨h.1, h.2.1, h.2.2.1, ?_⟩
    rw [e c (by simp)]
    exact chn_of h.2.2.2 (fun d hd => e d (by simp [hd]))
/-- a frame: cells outside lo .. hi are as they were, links too -/
def Fr (lo hi : Nat) (z z' : St) : Prop := z'.2.2 = z.2.2 ∧ ∀ k, ¬ (lo ≤ k ∧ k ≤ hi) → z'.1 k = z.1 k ∧ z'.2.1 k = z.2.1 k
theorem Fr.rfl' {lo hi : Nat} {z : St} : Fr lo hi z z := ⟨rfl, fun _ _ => ⟨rfl, rfl⟩⟩
theorem Fr.trans {lo hi : Nat} {z z' z'' : St} (h : Fr lo hi z z') (g : Fr lo hi z' z'') : Fr lo hi z z'' := ⟨g.1.trans h.1, fun k hk => ⟨(g.2 k hk).1.trans (h.2 k hk).1, (g.2 k hk).2.trans (h.2 k hk).2⟩⟩
theorem Fr.wide {lo hi lo' hi' : Nat} {z z' : St} (h : Fr lo hi z z') (h1 : lo' ≤ lo) (h2 : hi ≤ hi') : Fr lo' hi' z z' := ⟨h.1, fun k hk => h.2 k (by omega)⟩
theorem Fr.si {lo hi : Nat} {z z' : St} {k j : Nat} {v : Int32} (h : Fr lo hi z z') (h1 : lo ≤ k ∧ k ≤ hi) : Fr lo hi z (si z' k j v) := by
  refine ⟨h.1, fun k' hk => ⟨?_, (h.2 k' hk).2⟩⟩
  funext j'
  have : k' ≠ k := by intro e; subst e; exact hk h1
  rw [si_1, if_neg this, (h.2 k' hk).1]
theorem Fr.sl {lo hi : Nat} {z z' : St} {k j : Nat} {v : Int64} (h : Fr lo hi z z') (h1 : lo ≤ k ∧ k ≤ hi) : Fr lo hi z (sl z' k j v) := by
  refine ⟨h.1, fun k' hk => ⟨(h.2 k' hk).1, ?_⟩⟩
  funext j'
  have : k' ≠ k := by intro e; subst e; exact hk h1
  rw [sl_2, if_neg this, (h.2 k' hk).2]
theorem Fr.lay {sh : Nat → Nat × Nat} {n lo hi : Nat} {z z' : St} (h : Fr lo hi z z') (hL : Lay sh n z) : Lay sh n z' := hL.of h.1
def hd0 : List Nat → Nat
  | [] => 0
  | c :: _ => c
def NC (z : St) (x : Nd) (i : Nat) : Prop := z.1 89 i = nI x.1 ∧ (inn x.1 → z.2.1 91 i = lN x.2.2.2.length ∧ z.2.1 90 i = lN (hd0 x.2.2.2) ∧ chn z (nI (hd0 x.2.2.2)) x.2.2.2 ∧ x.2.2.2.length ≤ 256) ∧ (¬ inn x.1 → z.2.1 91 i = x.2.1 ∧ z.2.1 90 i = x.2.2.1)
def HC (z : St) (H : Hp) (u : Nat) (s : Int32) : Prop := z.1 88 4 = nI u ∧ 1 ≤ u ∧ u ≤ 21600 ∧ z.1 88 6 = s ∧ ∀ i, (H i).1 ≠ 0 → 0 < i ∧ i < u ∧ (H i).1 < 11 ∧ NC z (H i) i ∧ ∀ c ∈ (H i).2.2.2, (H c).1 ≠ 0
theorem HC.fr {z z' : St} {H : Hp} {u : Nat} {s : Int32} (h : HC z H u s) (e1 : ∀ k, 88 ≤ k → k ≤ 92 → z'.1 k = z.1 k) (e2 : ∀ k, 88 ≤ k → k ≤ 92 → z'.2.1 k = z.2.1 k) : HC z' H u s := by
  refine ⟨by rw [e1 88 (by omega) (by omega)]; exact h.1, h.2.1, h.2.2.1, by rw [e1 88 (by omega) (by omega)]; exact h.2.2.2.1, fun i hi => ?_⟩
  obtain ⟨a, b, c, ⟨d1, d2, d3⟩, d⟩ := h.2.2.2.2 i hi
  refine ⟨a, b, c, ⟨by rw [e1 89 (by omega) (by omega)]; exact d1, fun q => ?_, fun q => ?_⟩, d⟩
  · obtain ⟨q1, q2, q3, q4⟩ := d2 q
    refine ⟨by rw [e2 91 (by omega) (by omega)]; exact q1, by rw [e2 90 (by omega) (by omega)]; exact q2, chn_of q3 (fun c _ => by rw [e1 92 (by omega) (by omega)]), q4⟩
  · rw [e2 91 (by omega) (by omega), e2 90 (by omega) (by omega)]
    exact d3 q
/-- a new node -/
def mkS (z : St) (u : Nat) (k : Int32) (x y : Int64) : St := si (si (sl (sl (si z 89 u k) 91 u x) 90 u y) 92 u 0) 88 4 (nI (u + 1))
theorem mk_nar {k : Nat} (hk : k < 11) : vp_nar .byte ((nI k).toInt8.toInt32) = nI k := by
  have : ∀ k, k < 11 → vp_nar .byte ((nI k).toInt8.toInt32) = nI k := by decide
  exact this k hk
theorem make_t {F n : Nat} {sh : Nat → Nat × Nat} {z : St} {u k : Nat} {x y : Int64} (hL : Lay sh n z) (hu : z.1 88 4 = nI u) (h1 : 1 ≤ u) (h2 : u < 21600) (hk : k < 11) : fn_X1_make F sh n z 88 (nI k) x y = some (mkS z u (nI k) x y, nI u) := by
  have a1 : ¬ (nI u < 1) := nI_nlt (b := 1) h1 (by omega)
  have a2 : nI u < 21600 := nI_lt (b := 21600) h2 (by omega)
  have a3 : okI (nI u) 21600 = true := okI_nI h2 (by omega)
  have a4 : (nI u).toNatClampNeg = u := nI_clamp (by omega)
  unfold fn_X1_make
  simp only [b_heap hL, grd_true, lnk_s, lt_t, si_1, si_2, si_3, sl_1, sl_2, sl_3, Nat.reduceEqDiff, ↓reduceIte, hu, if_neg a1, if_pos a2, a3, a4, mk_nar hk, nI_1, mkS]
theorem mk_fr {z : St} {u : Nat} {k : Int32} {x y : Int64} : Fr 88 92 z (mkS z u k x y) := ((((Fr.rfl'.si (by omega)).sl (by omega)).sl (by omega)).si (by omega)).si (by omega)
theorem mk_H {z : St} {H : Hp} {u : Nat} {s : Int32} (h : HC z H u s) (h2 : u < 21600) {k : Nat} {x y : Int64} {nd : Nd} (hk : k < 11) (hn : nd.1 = k) (hi : inn k → x = 0 ∧ y = 0 ∧ nd.2.2.2 = []) (hl : ¬ inn k → x = nd.2.1 ∧ y = nd.2.2.1 ∧ nd.2.2.2 = []) : HC (mkS z u (nI k) x y) (upH H u nd) (u + 1) s := by
  refine ⟨by simp [mkS, si_1], by omega, by omega, by simp [mkS, si_1, sl_1]; exact h.2.2.2.1, fun i q => ?_⟩
  have nil : nd.2.2.2 = [] := by
    by_cases c : inn k
    · exact (hi c).2.2
    · exact (hl c).2.2
  by_cases hiu : i = u
  · subst hiu
    rw [upH_s] at q ⊢
    refine ⟨by have := h.2.1; omega, by omega, by omega, ⟨?_, fun c => ?_, fun c => ?_⟩, by rw [nil]; intro c hc; exact absurd hc (by simp)⟩
    · simp [mkS, si_1, sl_1, hn]
    · rw [hn] at c
      obtain ⟨c1, c2, _⟩ := hi c
      rw [nil]
      refine ⟨?_, ?_, by simp [chn, hd0, nI_0], by simp⟩
      · simp [mkS, si_2, sl_2, c1]; rfl
      · simp [mkS, si_2, sl_2, c2, hd0]; rfl
    · rw [hn] at c
      obtain ⟨c1, c2, _⟩ := hl c
      exact ⟨by simp [mkS, si_2, sl_2, c1], by simp [mkS, si_2, sl_2, c2]⟩
  · rw [upH_n hiu] at q ⊢
    obtain ⟨a, b, c, ⟨d1, d2, d3⟩, d⟩ := h.2.2.2.2 i q
    have ne : ∀ c ∈ (H i).2.2.2, c ≠ u := fun c hc => by have := (h.2.2.2.2 c (d c hc)).2.1; omega
    refine ⟨a, by omega, c, ⟨?_, fun q => ?_, fun q => ?_⟩, fun c hc => by rw [upH_n (ne c hc)]; exact d c hc⟩
    · simp [mkS, si_1, sl_1, hiu]; exact d1
    · obtain ⟨q1, q2, q3, q4⟩ := d2 q
      refine ⟨by simp [mkS, si_2, sl_2, hiu]; exact q1, by simp [mkS, si_2, sl_2, hiu]; exact q2, chn_of q3 (fun c hc => ?_), q4⟩
      have := ne c hc
      simp [mkS, si_1, sl_1, this]
    · obtain ⟨q1, q2⟩ := d3 q
      exact ⟨by simp [mkS, si_2, sl_2, hiu]; exact q1, by simp [mkS, si_2, sl_2, hiu]; exact q2⟩
