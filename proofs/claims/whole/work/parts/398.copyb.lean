/-! the class's heap: copyOf, its loop -/
def Cls (H : Hp) (P : Nat → Prop) : Prop := ∀ i, P i → ∀ c ∈ (H i).2.2.2, P c
def Rows (u : Nat) (z z' : St) : Prop := ∀ j, j < u → z'.1 89 j = z.1 89 j ∧ z'.1 92 j = z.1 92 j ∧ z'.2.1 90 j = z.2.1 90 j ∧ z'.2.1 91 j = z.2.1 91 j
def CpR (z : St) (H : Hp) (u : Nat) (s : Int32) (d v : Nat) (z' : St) (H' : Hp) (u' : Nat) (o : Nat → Nat) : Prop := HC z' H' u' s ∧ u < u' ∧ u' ≤ u + szA H d v ∧ (∀ i, i < u → H' i = H i) ∧ o u = v ∧ Bl H H' u u' o ∧ z'.1 92 u = 0 ∧ Fr 88 92 z z' ∧ Rows u z z' ∧ ∀ P : Nat → Prop, P v → Cls H P → ∀ i, u ≤ i → i < u' → P (o i)
def ltN (ns : List Nat) : Nat := ns.getLastD 0
def CpL (z0 : St) (H : Hp) (w v d : Nat) (s : Int32) (m : Nat) (z : St) (Hm : Hp) (um : Nat) (ns : List Nat) (o : Nat → Nat) : Prop := HC z Hm um s ∧ w < um ∧ (Hm w).1 = 0 ∧ (∀ i, i < w → Hm i = H i) ∧ um ≤ w + 1 + (((H v).2.2.2.take m).map (szA H d)).sum ∧ ns.map o = (H v).2.2.2.take m ∧ ns.Nodup ∧ (∀ c ∈ ns, w < c ∧ c < um ∧ (Hm c).1 ≠ 0 ∧ ∀ i, w < i → i < um → c ∉ (Hm i).2.2.2) ∧ Bl H Hm (w + 1) um o ∧ (z.1 89 w = nI (H v).1 ∧ z.2.1 91 w = lN (H v).2.2.2.length ∧ z.2.1 90 w = lN (hd0 ns) ∧ chn z (nI (hd0 ns)) ns ∧ z.1 92 w = 0) ∧ Fr 88 92 z0 z ∧ Rows w z0 z ∧ ∀ P : Nat → Prop, (∀ c ∈ (H v).2.2.2, P c) → Cls H P → ∀ i, w < i → i < um → P (o i)
theorem sum_take_succ {l : List Nat} {m : Nat} (h : m < l.length) (f : Nat → Nat) : ((l.take (m + 1)).map f).sum = ((l.take m).map f).sum + f l[m] := by
  rw [List.take_succ_eq_append_getElem h, List.map_append, List.sum_append]
  simp
theorem sum_take_le (l : List Nat) (m : Nat) (f : Nat → Nat) : ((l.take m).map f).sum ≤ (l.map f).sum := by
  conv => rhs; rw [← List.take_append_drop m l, List.map_append, List.sum_append]
  omega
/-- one more child -/
theorem cpL_step {z0 : St} {H : Hp} {w v d : Nat} {s : Int32} {m : Nat} {z : St} {Hm : Hp} {um : Nat} {ns : List Nat} {o : Nat → Nat} (h0 : ∀ i, (H i).1 ≠ 0 → i < w) (hcl : ∀ i, (H i).1 ≠ 0 → ∀ c ∈ (H i).2.2.2, (H c).1 ≠ 0) (hv : (H v).1 ≠ 0) (h : CpL z0 H w v d s m z Hm um ns o) (hm : m < (H v).2.2.2.length) {z' : St} {H' : Hp} {u' : Nat} {o' : Nat → Nat} (r : CpR z Hm um s d (H v).2.2.2[m] z' H' u' o') (hsz : szA Hm d (H v).2.2.2[m] = szA H d (H v).2.2.2[m]) (hu : u' ≤ 21600) : ∀ z'', (z'' = (if ns = [] then sl z' 90 w (lN um) else si z' 92 (ltN ns) (nI um))) → CpL z0 H w v d s (m + 1) z'' H' u' (ns ++ [um]) (fun i => if i < um then o i else o' i) := by
  intro z'' ez
  obtain ⟨a1, a2, a3, a4, a5, a6, a7, a8, a9, ⟨n1, n2, n3, n4, n5⟩, a11, a12, a13⟩ := h
  obtain ⟨r1, r2, r3, r4, r5, r6, r7, r8, r9, r10⟩ := r
  have dead : ∀ i, um ≤ i → (Hm i).1 = 0 := fun i hi => by
    by_cases q : (Hm i).1 = 0
    · exact q
    · exact absurd (a1.2.2.2.2 i q).2.1 (by omega)
  have lns : ∀ c ∈ ns, c ≠ um := fun c q => by have := (a8 c q).2.1; omega
  have oin : ∀ i, um ≤ i → i < u' → o' i < w ∧ (H (o' i)).1 ≠ 0 := by
    refine r10 (fun i => i < w ∧ (H i).1 ≠ 0) ?_ ?_
    · have q := hcl v hv _ (List.getElem_mem hm)
      exact ⟨h0 _ q, q⟩
    · intro i hi c q
      rw [a4 i hi.1] at q
      have := hcl i hi.2 c q
      exact ⟨h0 c this, this⟩
  have Bl2 : Bl H H' (w + 1) u' (fun i => if i < um then o i else o' i) := by
    intro i hi1 hi2
    by_cases q : i < um
    · obtain ⟨b1, b2, b3, b4, b5, b6, b7, b8⟩ := a9 i hi1 q
      simp only [if_pos q]
      rw [r4 i q]
      refine ⟨b1, b2, b3, b4, ?_, b6, fun c hc => ⟨(b7 c hc).1, by have := (b7 c hc).2; omega⟩, fun j j1 j2 c c1 c2 => ?_⟩
      · rw [← b5]
        refine List.map_congr_left (fun c hc => ?_)
        simp only [if_pos (b7 c hc).2]
      · by_cases p : j < um
        · rw [r4 j p] at c2
          exact b8 j j1 p c c1 c2
        · have := ((r6 j (by omega) j2).2.2.2.2.2.2.1 c c2).1
          have := (b7 c c1).2
          omega
    · obtain ⟨b1, b2, b3, b4, b5, b6, b7, b8⟩ := r6 i (by omega) hi2
      obtain ⟨o1, o2⟩ := oin i (by omega) hi2
      simp only [if_neg q]
      rw [a4 _ o1] at b1 b2 b3 b4 b5
      refine ⟨b1, b2, b3, b4, ?_, b6, b7, fun j j1 j2 c c1 c2 => ?_⟩
      · rw [← b5]
        refine List.map_congr_left (fun c hc => ?_)
        have := (b7 c hc).1
        simp only [if_neg (show ¬ c < um by omega)]
      · by_cases p : j < um
        · have := (b7 c c1).1
          have q2 := (a9 j j1 p).2.2.2.2.2.2.1 c (by rw [r4 j p] at c2; exact c2)
          omega
        · exact b8 j (by omega) j2 c c1 c2
  have rootum : rootH H' um := by
    intro i hi c
    by_cases q : i < um
    · rw [r4 i q] at c hi
      have := (a1.2.2.2.2 i hi).2.2.2.2 um c
      exact this (dead um (by omega))
    · have i2 := (r1.2.2.2.2 i hi).2.1
      have := ((r6 i (by omega) i2).2.2.2.2.2.2.1 um c).1
      omega
  have umal : (H' um).1 ≠ 0 := by
    obtain ⟨b1, b2, _⟩ := r6 um (by omega) r2
    rw [b2]
    exact b1
  have wd : (H' w).1 = 0 := by rw [r4 w a2]; exact a3
  have hroot : ∀ c ∈ ns, rootH H' c := by
    intro c hc i hi q
    obtain ⟨c1, c2, c3, c4⟩ := a8 c hc
    by_cases p : i < um
    · rw [r4 i p] at q hi
      by_cases p2 : w < i
      · exact c4 i p2 p q
      · by_cases p3 : i = w
        · subst p3; exact hi a3
        · rw [a4 i (by omega)] at q hi
          have := h0 c (hcl i hi c q)
          omega
    · have i2 := (r1.2.2.2.2 i hi).2.1
      have := ((r6 i (by omega) i2).2.2.2.2.2.2.1 c q).1
      omega
  have ua : um < 21600 := by omega
  have w0 : z'.1 89 w = nI (H v).1 ∧ z'.1 92 w = 0 ∧ z'.2.1 90 w = lN (hd0 ns) ∧ z'.2.1 91 w = lN (H v).2.2.2.length := by
    obtain ⟨q1, q2, q3, q4⟩ := r9 w a2
    exact ⟨q1.trans n1, q2.trans n5, q3.trans n3, q4.trans n2⟩
  have ch' : chn z' (nI (hd0 ns)) ns := chn_of n4 (fun c hc => (r9 c (a8 c hc).2.1).2.1)
  have core : HC z'' H' u' s ∧ (z''.1 89 w = nI (H v).1 ∧ z''.2.1 91 w = lN (H v).2.2.2.length ∧ z''.2.1 90 w = lN (hd0 (ns ++ [um])) ∧ chn z'' (nI (hd0 (ns ++ [um]))) (ns ++ [um]) ∧ z''.1 92 w = 0) ∧ Fr 88 92 z' z'' ∧ Rows w z' z'' := by
    by_cases en : ns = []
    · rw [if_pos en] at ez
      subst ez en
      refine ⟨r1.off (i := 0) (fun k j _ _ => rfl) (fun j _ => rfl) (by funext j; simp [sl_2]) (fun j hj => ?_) (.inr rfl), ⟨w0.1, by simp [sl_2]; exact w0.2.2.2, by simp [sl_2, hd0], ⟨rfl, by omega, ua, r7⟩, w0.2.1⟩, Fr.rfl'.sl (by omega), fun j hj => ⟨rfl, rfl, ?_, by simp [sl_2]⟩⟩
      · have : j ≠ w := fun e => by subst e; exact hj wd
        simp [sl_2, this]
      · have : j ≠ w := by omega
        simp [sl_2, this]
    · rw [if_neg en] at ez
      obtain ⟨ms, l, e⟩ : ∃ ms l, ns = ms ++ [l] := ⟨ns.dropLast, ns.getLast en, (List.dropLast_concat_getLast en).symm⟩
      have el : ltN ns = l := by rw [e]; simp [ltN]
      rw [el] at ez
      have lin : l ∈ ns := by rw [e]; simp
      obtain ⟨l1, l2, l3, l4⟩ := a8 l lin
      have hh : hd0 (ns ++ [um]) = hd0 ns := by
        cases ns with
        | nil => exact absurd rfl en
        | cons a b => rfl
      have lw : w ≠ l := by omega
      have lum : um ≠ l := by omega
      subst ez
      refine ⟨r1.off (i := l) (fun k j _ hk => by simp [si_1, hk]) (fun j hj => by simp [si_1, hj]) rfl (fun j _ => rfl) (.inl (hroot l lin)), ⟨by simp [si_1]; exact w0.1, w0.2.2.2, by rw [hh]; exact w0.2.2.1, ?_, by simp [si_1, lw]; exact w0.2.1⟩, Fr.rfl'.si (by omega), fun j hj => ⟨by simp [si_1], ?_, rfl, rfl⟩⟩
      · rw [hh]
        rw [e] at ch' ⊢
        refine chn_app ch' (fun i hi => by simp [si_1, hi]) (by simp [si_1]) (by simp [si_1, lum]; exact r7) ?_ (by omega) ua
        rw [e] at a7
        have := (List.nodup_append.mp a7).2.2
        intro q
        exact this l q l (by simp) rfl
      · have : j ≠ l := by omega
        simp [si_1, this]
  obtain ⟨k1, k2, k3, k4⟩ := core
  refine ⟨k1, by omega, wd, fun i hi => by rw [r4 i (by omega)]; exact a4 i hi, ?_, ?_, ?_, ?_, Bl2, k2, a11.trans (r8.trans k3), ?_, ?_⟩
  · rw [sum_take_succ hm]
    rw [hsz] at r3
    omega
  · rw [List.map_append, List.take_succ_eq_append_getElem hm, ← a6]
    congr 1
    · refine List.map_congr_left (fun c hc => ?_)
      simp only [if_pos (a8 c hc).2.1]
    · simp [r5]
  · rw [List.nodup_append]
    refine ⟨a7, by simp, fun a ha b hb => ?_⟩
    have : b = um := by simpa using hb
    rw [this]
    exact lns a ha
  · intro c hc
    rcases List.mem_append.mp hc with q | q
    · obtain ⟨c1, c2, c3, c4⟩ := a8 c q
      refine ⟨c1, by omega, by rw [r4 c c2]; exact c3, fun i i1 i2 => ?_⟩
      by_cases p : (H' i).1 = 0
      · have := (Bl2 i (by omega) i2)
        rw [this.2.1] at p
        exact absurd p this.1
      · exact hroot c q i p
    · have e : c = um := by simpa using q
      subst e
      refine ⟨by omega, r2, umal, fun i i1 i2 => ?_⟩
      have := (Bl2 i (by omega) i2)
      exact rootum i (by rw [this.2.1]; exact this.1)
  · intro j hj
    obtain ⟨p1, p2, p3, p4⟩ := a12 j hj
    obtain ⟨q1, q2, q3, q4⟩ := r9 j (by omega)
    obtain ⟨s1, s2, s3, s4⟩ := k4 j hj
    exact ⟨s1.trans (q1.trans p1), s2.trans (q2.trans p2), s3.trans (q3.trans p3), s4.trans (q4.trans p4)⟩
  · intro P hP hC i i1 i2
    by_cases q : i < um
    · simp only [if_pos q]
      exact a13 P hP hC i i1 q
    · simp only [if_neg q]
      refine (r10 (fun i => P i ∧ i < w ∧ (H i).1 ≠ 0) ?_ ?_ i (by omega) i2).1
      · have q := hcl v hv _ (List.getElem_mem hm)
        exact ⟨hP _ (List.getElem_mem hm), h0 _ q, q⟩
      · intro i hi c q
        rw [a4 i hi.2.1] at q
        have := hcl i hi.2.2 c q
        exact ⟨hC i hi.1 c q, h0 c this, this⟩
