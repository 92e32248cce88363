/-! A MODULE AS BYTES: MdO of a picture that was judged -/
section
variable {b : Nat → Nat} {len : Nat} {M : MP}
theorem jSs_n {all : Nat} : ∀ (ss : List SP), jSs all ss = none → ∀ s, s ∈ ss → jTs all (s.1 + 2) s.2.2 = none
  | [], _, s, hs => by cases hs
  | u :: ss, h, s, hs => by
    obtain ⟨j1, j2⟩ := orE_0 h
    rcases List.mem_cons.mp hs with q | q
    · rw [q]; exact j1
    · exact jSs_n ss j2 s q
theorem jCs_n {all : Nat} : ∀ (ss : List CP), jCs all ss = none → ∀ s, s ∈ ss → jTs all (s.1 + 5) s.2.1 = none ∧ jTs all (endL (s.1 + 5) s.2.1 + 1) s.2.2 = none
  | [], _, s, hs => by cases hs
  | u :: ss, h, s, hs => by
    obtain ⟨j1, j2⟩ := orE_0 h
    rcases List.mem_cons.mp hs with q | q
    · rw [q]; exact orE_0 j1
    · exact jCs_n ss j2 s q
theorem jEs_n {all : Nat} : ∀ (ss : List (Nat × Ty)), jEs all ss = none → ∀ s, s ∈ ss → jT all s.1 s.2 = none
  | [], _, s, hs => by cases hs
  | u :: ss, h, s, hs => by
    obtain ⟨j1, j2⟩ := orE_0 h
    rcases List.mem_cons.mp hs with q | q
    · rw [q]; exact j1
    · exact jEs_n ss j2 s q
theorem jGs_n {own all fns els : Nat} {fds : Nat → Nat} : ∀ (ss : List GP), jGs b own all fds fns els ss = none → ∀ s, s ∈ ss → jGp b own all fds fns els s = none
  | [], _, s, hs => by cases hs
  | u :: ss, h, s, hs => by
    obtain ⟨j1, j2⟩ := orE_0 h
    rcases List.mem_cons.mp hs with q | q
    · rw [q]; exact j1
    · exact jGs_n ss j2 s q
/-- an own function's lists are sound -/
theorem jGp_l {own all fns els : Nat} {fds : Nat → Nat} {g : GP} (hb : ∀ q, q < len → b q < 256) (hg : GpP b len g) (hj : jGp b own all fds fns els g = none) : (∀ t, t ∈ g.2.2.1 → LsO all t) ∧ (∀ t, t ∈ g.2.2.2.1 → LsO all t) ∧ ∀ t, t ∈ g.2.2.2.2.1 → LsO all t := by
  obtain ⟨_, _, _, ⟨g4, _⟩, ⟨g6, _⟩, g8, _⟩ := hg
  obtain ⟨j1, _⟩ := orE_0 hj
  obtain ⟨j3, j4⟩ := orE_0 j1
  obtain ⟨j5, j6⟩ := orE_0 j3
  exact ⟨fun t ht => (AtL.ls hb _ _ g4.2.2.2 j5 t ht).1, fun t ht => (AtL.ls hb _ _ g6.2.2.2 j6 t ht).1, fun t ht => (AtL.ls hb _ _ g8.2.2.2 j4 t ht).1⟩
theorem mdO_of (hb : ∀ q, q < len → b q < 256) (hp : PicOk b len M) (hj : jM b M = none) : MdO (mdOf b M) := by
  obtain ⟨⟨p1, p2⟩, ⟨p3, p4⟩, ⟨p5, p6⟩, ⟨p7, p8⟩, p9, p10⟩ := hp
  obtain ⟨j1, j2⟩ := orE_0 hj
  obtain ⟨j3, j4⟩ := orE_0 j1
  obtain ⟨j5, j6⟩ := orE_0 j3
  refine ⟨fun s hs => ?_, ⟨by show M.1.length ≤ M.1.length + M.2.1.length; omega, by show M.1.length + M.2.1.length ≤ 64; omega⟩, fun a ha => ?_, fun t ht => ?_, fun g hg => ?_⟩
  · have hs' : s < M.1.length + M.2.1.length := hs
    show (if s < M.1.length then b (M.1.getD s dSP).1 else b (M.2.1.getD (s - M.1.length) 0 + 3)) < 16
    by_cases c : s < M.1.length
    · rw [if_pos c]
      have := p2 _ (getD_m (d := dSP) c)
      have q1 := this.2.1
      have q2 := this.2.2.1
      omega
    · rw [if_neg c]
      have := (p4 _ (getD_m (d := 0) (show s - M.1.length < M.2.1.length by omega))).2
      omega
  · have ha' : a < M.1.length := ha
    have q := p2 _ (getD_m (d := dSP) ha')
    refine ⟨q.2.2.2.2.2.1, fun t ht => ?_⟩
    exact (AtL.ls hb _ _ q.2.2.2.2.2.2 (jSs_n M.1 j5 _ (getD_m (d := dSP) ha')) t ht).2 rfl
  · have ht' : t ∈ M.2.2.2.1.map (fun e => e.2) := ht
    obtain ⟨e, he, rfl⟩ := List.mem_map.mp ht'
    exact (RdT.ls hb (p8 e he) (jEs_n _ j4 e he)).2 rfl
  · have hg' : g < M.2.2.2.2.length + M.2.2.1.length := hg
    by_cases c : g < M.2.2.2.2.length
    · have e : fnOf (mdOf b M) g = (b (M.2.2.2.2.getD g dGP).1, (M.2.2.2.2.getD g dGP).2.2.1, (M.2.2.2.2.getD g dGP).2.2.2.1, (M.2.2.2.2.getD g dGP).2.2.2.2.1) := by show (if g < M.2.2.2.2.length then _ else _ : Fn) = _; rw [if_pos c]
      have q := p10 _ (getD_m (d := dGP) c)
      obtain ⟨l1, l2, _⟩ := jGp_l hb q (jGs_n _ j2 _ (getD_m (d := dGP) c))
      unfold tksOf gvsOf
      rw [e]
      have q1 := q.2.1
      have q2 := q.2.2.1
      exact ⟨by show b (M.2.2.2.2.getD g dGP).1 < 8; omega, q.2.2.2.1.2, q.2.2.2.2.1.2, l1, l2⟩
    · have c' : g - M.2.2.2.2.length < M.2.2.1.length := by omega
      have e : fnOf (mdOf b M) g = (b ((M.2.2.1.getD (g - M.2.2.2.2.length) dCP).1 + 3), (M.2.2.1.getD (g - M.2.2.2.2.length) dCP).2.1, (M.2.2.1.getD (g - M.2.2.2.2.length) dCP).2.2, []) := by show (if g < M.2.2.2.2.length then _ else _ : Fn) = _; rw [if_neg c]
      have q := p6 _ (getD_m (d := dCP) c')
      obtain ⟨k1, k2⟩ := jCs_n _ j6 _ (getD_m (d := dCP) c')
      unfold tksOf gvsOf
      rw [e]
      have q2 := q.2.1
      exact ⟨by show b ((M.2.2.1.getD (g - M.2.2.2.2.length) dCP).1 + 3) < 8; omega, q.2.2.1.2, q.2.2.2.2, fun t ht => (AtL.ls hb _ _ q.2.2.1.1.2.2.2 k1 t ht).1, fun t ht => (AtL.ls hb _ _ q.2.2.2.1.2.2.2 k2 t ht).1⟩
end
