/-! BOTH MACHINES SIDE BY SIDE: less is known -/
def wkS (s : Sl) (o : Int64) (i : Bool) : Sl := if s.2.1 = 0 then s else (s.1, s.2.1, s.2.2.1, o, i)
def wkL (ls : List Ty) (x : Fm) (L : Lks) (k : Nat) : Option Sl := if k < ls.length ∧ L.2.1 k = true then (x.2.1 k).map (fun s => wkS s (L.2.2.1 k) (L.2.2.2 k)) else (x.2.1 k).bind (fun s => if s.2.1 = 0 then some s else none)
def wkF (ls : List Ty) (x : Fm) (L : Lks) : Fm := (x.1, wkL ls x L, (x.2.2.1.1, x.2.2.1.2), x.2.2.2)
theorem wkS_e {s : Sl} {o : Int64} {i : Bool} : (wkS s o i).1 = s.1 ∧ (wkS s o i).2.1 = s.2.1 ∧ (wkS s o i).2.2.1 = s.2.2.1 ∧ (s.2.1 = 0 → wkS s o i = s) ∧ (s.2.1 ≠ 0 → (wkS s o i).2.2.2 = (o, i)) := by
  unfold wkS
  by_cases c : s.2.1 = 0
  · rw [if_pos c]; exact ⟨rfl, rfl, rfl, fun _ => rfl, fun q => absurd c q⟩
  · rw [if_neg c]; exact ⟨rfl, rfl, rfl, fun q => absurd q c, fun _ => rfl⟩
theorem wkL_s {ls : List Ty} {x : Fm} {L : Lks} {k : Nat} {s' : Sl} (h : wkL ls x L k = some s') : ∃ s, x.2.1 k = some s ∧ s'.1 = s.1 ∧ s'.2.1 = s.2.1 ∧ s'.2.2.1 = s.2.2.1 ∧ (s.2.1 = 0 → s' = s) ∧ (s.2.1 ≠ 0 → k < ls.length ∧ L.2.1 k = true ∧ s'.2.2.2 = (L.2.2.1 k, L.2.2.2 k)) := by
  unfold wkL at h
  by_cases c : k < ls.length ∧ L.2.1 k = true
  · rw [if_pos c] at h
    cases q : x.2.1 k with
    | none => rw [q] at h; exact absurd h (by simp)
    | some s =>
      rw [q] at h
      have e : s' = wkS s (L.2.2.1 k) (L.2.2.2 k) := by simpa using h.symm
      subst e
      obtain ⟨w1, w2, w3, w4, w5⟩ := wkS_e (s := s) (o := L.2.2.1 k) (i := L.2.2.2 k)
      exact ⟨s, rfl, w1, w2, w3, w4, fun r => ⟨c.1, c.2, w5 r⟩⟩
  · rw [if_neg c] at h
    cases q : x.2.1 k with
    | none => rw [q] at h; exact absurd h (by simp)
    | some s =>
      rw [q] at h
      have h' : (if s.2.1 = 0 then some s else none) = some s' := h
      by_cases z : s.2.1 = 0
      · rw [if_pos z] at h'
        have e : s = s' := by simpa using h'
        subst e
        exact ⟨s, rfl, rfl, rfl, rfl, fun _ => rfl, fun r => absurd z r⟩
      · rw [if_neg z] at h'; exact absurd h' (by simp)
theorem wkL_p {ls : List Ty} {x : Fm} {L : Lks} {k : Nat} : (wkL ls x L k).bind pln = (x.2.1 k).bind pln := by
  unfold wkL
  cases q : x.2.1 k with
  | none => split <;> rfl
  | some s =>
    by_cases z : s.2.1 = 0
    · split
      · simp only [Option.map_some, Option.bind_some]
        rw [(wkS_e (s := s)).2.2.2.1 z]
      · simp only [Option.bind_some]
        rw [if_pos z]; rfl
    · split
      · simp only [Option.map_some, Option.bind_some]
        unfold pln
        rw [(wkS_e (s := s)).2.1, (wkS_e (s := s)).1]
      · simp only [Option.bind_some]
        rw [if_neg z]
        unfold pln
        rw [if_neg z]; rfl
section
variable {E : Ev} {F n : Nat} {sh : Nat → Nat × Nat} {pk : Nat → Nat} {kt : Nat} {sl0 : Int32} {lim e : Nat} {zr zc : St} {H : Hp} {m : Nat} {ty : Nat → Nat} {fr : Nat → Fm} {nf na : Nat} {ak : Nat → Ask} {g : Nat} {Hc : Hp} {mc : Nat} {phi : Nat → Nat} {Rn : Nat → Option Nat} {cs cl : Nat → Nat → Nat} {cn : Nat → Nat} {ws : Nat → Int64 → Nat → Bool} {U : Md} {ls : List Ty} {L L2 : Lks}
theorem FM.weak {x : Fm} (fm : FM U ls x L) (le : leD U ls L L2) : FM U ls (wkF ls x L2) L2 := by
  obtain ⟨h1, h2, h3, h4, h5⟩ := fm
  obtain ⟨⟨e1, e2, e3⟩, e4⟩ := le
  refine ⟨by show x.2.2.1.1 = _; omega, by omega, fun k hk => by rw [← e2 k (by omega)]; exact h3 k (by omega), fun k hk => ⟨fun q => ?_, fun q s hs => ?_⟩, fun k hk => ?_⟩
  · obtain ⟨b1, b2, b3⟩ := e3 k hk q
    obtain ⟨s, s1, s2⟩ := (h4 k hk).1 b1
    refine ⟨wkS s (L2.2.2.1 k) (L2.2.2.2 k), ?_, ?_⟩
    · show wkL ls x L2 k = _
      unfold wkL
      rw [if_pos ⟨hk, q⟩, s1]; rfl
    · obtain ⟨w1, w2, w3, w4, w5⟩ := wkS_e (s := s) (o := L2.2.2.1 k) (i := L2.2.2.2 k)
      refine ⟨by rw [w2]; exact s2.1, by rw [w3]; exact s2.2.1, fun r => ?_⟩
      have : s.2.1 ≠ 0 := by
        rw [s2.1, sR, if_pos r]
        unfold isR at r
        simp only [Bool.or_eq_true, beq_iff_eq] at r
        show hdT (ls.getD k []) ≠ 0
        omega
      rw [w5 this]; exact ⟨rfl, rfl⟩
  · obtain ⟨s0, s1, s2, s3, s4, s5, s6⟩ := wkL_s (show wkL ls x L2 k = some s from hs)
    have z : s0.2.1 = 0 := by
      by_cases z : s0.2.1 = 0
      · exact z
      · have := (s6 z).2.1
        rw [q] at this; exact absurd this (by simp)
    refine ⟨by rw [s3]; exact z, ?_⟩
    cases qq : L.2.1 k with
    | false => exact ((h4 k hk).2 qq s0 s1).2
    | true =>
      refine ⟨?_, e4 k hk qq q⟩
      obtain ⟨s9, t1, t2⟩ := (h4 k hk).1 qq
      rw [s1] at t1
      have e : s0 = s9 := by simpa using t1
      subst e
      cases r : isR (ls.getD k []) with
      | false => rfl
      | true =>
        have t3 := t2.1
        rw [z, sR, if_pos r] at t3
        unfold isR at r
        simp only [Bool.or_eq_true, beq_iff_eq] at r
        have t4 : 0 = hdT (ls.getD k []) := t3
        omega
  · show wkL ls x L2 k = none
    cases q : wkL ls x L2 k with
    | none => rfl
    | some s =>
      obtain ⟨s0, s1, _⟩ := wkL_s q
      rw [h5 k hk] at s1
      exact absurd s1 (by simp)
theorem MJ.less (I : MJ E H m ty fr nf na ak (fun _ => none)) (fm : FM U ls (fr (nf - 1)) L) (le : leD U ls L L2) : MJ E H m ty (setF fr (nf - 1) (wkF ls (fr (nf - 1)) L2)) nf na ak (fun _ => none) := by
  have n0 := I.nf0
  have eL : LvA (setF fr (nf - 1) (wkF ls (fr (nf - 1)) L2)) nf na ak (fun _ => none) = LvA fr nf na ak (fun _ => none) := by
    funext a d k
    unfold LvA
    by_cases q : d = nf - 1
    · subst q
      rw [setF_s]
      show (if a = 0 then _ else if a = 1 then (if nf - 1 < nf then (wkL ls (fr (nf - 1)) L2 k).bind pln else none) else _) = _
      rw [wkL_p]; rfl
    · rw [setF_n q]
  have eG : ghA (setF fr (nf - 1) (wkF ls (fr (nf - 1)) L2)) nf = ghA fr nf := by
    funext d k
    unfold ghA
    by_cases q : d = nf - 1
    · subst q; rw [setF_s]; rfl
    · rw [setF_n q]
  have eS : rsA E (setF fr (nf - 1) (wkF ls (fr (nf - 1)) L2)) nf = rsA E fr nf := by
    funext d
    unfold rsA
    by_cases q : d = nf - 1
    · subst q; rw [setF_s]; rfl
    · rw [setF_n q]
  have eB : rbA E (setF fr (nf - 1) (wkF ls (fr (nf - 1)) L2)) ak = rbA E fr ak := by
    funext d j
    unfold rbA
    by_cases q : d = nf - 1
    · subst q; rw [setF_s]; rfl
    · rw [setF_n q]
  obtain ⟨h1, h2, h3, h4, h5⟩ := fm
  obtain ⟨⟨le1, le2, le3⟩, _⟩ := le
  obtain ⟨⟨j1, j2, j3, j4, j5, j6, j7, j8⟩, i2, i3, i4, i5, i6, i7⟩ := I
  have old : ∀ s', RfA (setF fr (nf - 1) (wkF ls (fr (nf - 1)) L2)) nf (nf - 1) s' → ∃ s, RfA fr nf (nf - 1) s ∧ s'.1 = s.1 ∧ s'.2.1 = s.2.1 ∧ (∀ b, ob s.2.2.2.1 b = true → ob s'.2.2.2.1 b = true) ∧ (s'.2.2.2.2 = false → s.2.2.2.2 = false) := fun s' hs => by
    obtain ⟨a1, a2, a3⟩ := hs
    rw [setF_s] at a3
    rcases a3 with ⟨k, b1, b2⟩ | ⟨k, b1⟩ | ⟨k, b1⟩
    · exact ⟨s', ⟨a1, a2, .inl ⟨k, b1, b2⟩⟩, rfl, rfl, fun _ q => q, fun q => q⟩
    · obtain ⟨s, s1, s2, s3, s4, s5, s6⟩ := wkL_s (show wkL ls (fr (nf - 1)) L2 k = some s' from b1)
      have z : s.2.1 ≠ 0 := by rw [← s3]; exact a2
      obtain ⟨y1, y2, y3⟩ := s6 z
      obtain ⟨v1, v2, v3⟩ := le3 k y1 y2
      obtain ⟨s9, t1, t2⟩ := (h4 k y1).1 v1
      rw [s1] at t1
      have e : s = s9 := by simpa using t1
      subst e
      have r : isR (ls.getD k []) = true := by
        cases r : isR (ls.getD k []) with
        | true => rfl
        | false =>
          have t3 := t2.1
          rw [sR, if_neg (by rw [r]; simp)] at t3
          exact absurd t3 z
      obtain ⟨o1, o2⟩ := t2.2.2 r
      refine ⟨s, ⟨a1, z, .inr (.inl ⟨k, s1⟩)⟩, s2, s3, fun b hb => ?_, fun q => ?_⟩
      · rw [y3]; rw [o1] at hb; exact v2 b hb
      · rw [y3] at q
        rw [o2]
        cases w : L.2.2.2 k with
        | false => rfl
        | true => have := v3 w; rw [this] at q; exact absurd q (by simp)
    · exact ⟨s', ⟨a1, a2, .inr (.inr ⟨k, b1⟩)⟩, rfl, rfl, fun _ q => q, fun q => q⟩
  have oth : ∀ d s, d ≠ nf - 1 → RfA (setF fr (nf - 1) (wkF ls (fr (nf - 1)) L2)) nf d s → RfA fr nf d s := fun d s q hs => by
    unfold RfA at hs ⊢
    rw [setF_n q] at hs
    exact hs
  have oth2 : ∀ d s, d ≠ nf - 1 → RfA fr nf d s → RfA (setF fr (nf - 1) (wkF ls (fr (nf - 1)) L2)) nf d s := fun d s q hs => by
    unfold RfA at hs ⊢
    rw [setF_n q]
    exact hs
  have gt : ∀ k, ghA fr nf (nf - 1) k = none := fun k => by
    unfold ghA
    rw [if_pos (by omega)]; exact i6 k n0
  refine ⟨?_, i2, fun d hd => ?_, i4, i5, fun k hk => by rw [setF_s]; exact i6 k hk, i7.1, by rw [eL]; exact i7.2⟩
  · rw [eL, eG, eS, eB]
    refine ⟨j1, j2, j3, fun d s hs => ?_, fun d k gg hg => ?_, fun d k gg hg h9 s hs => ?_, j7, fun d hd => ?_⟩
    · by_cases q : d = nf - 1
      · subst q
        obtain ⟨s0, o1, o2, o3, o4, o5⟩ := old s hs
        obtain ⟨b, b1, b2⟩ := j4 _ s0 o1
        refine ⟨b, o4 b b1, ?_⟩
        rw [o2, o3]
        rcases b2 with ⟨c1, X, c2, c3, c4⟩ | ⟨c1, c2, c3, gg, c4, c5, c6, c7⟩ | ⟨c1, c2, j, X, c3, c4, c5, c6⟩
        · exact .inl ⟨c1, X, c2, c3, fun q => c4 (o5 q)⟩
        · exact .inr (.inl ⟨c1, c2, c3, gg, c4, c5, c6, fun q => c7 (o5 q)⟩)
        · exact .inr (.inr ⟨c1, c2, j, X, c3, c4, c5, fun q => c6 (o5 q)⟩)
      · exact j4 d s (oth d s q hs)
    · have q : d ≠ nf - 1 := fun q => by subst q; rw [gt k] at hg; exact absurd hg (by simp)
      exact oth2 d gg q (j5 d k gg hg)
    · have q : d ≠ nf - 1 := fun q => by subst q; rw [gt k] at hg; exact absurd hg (by simp)
      exact j6 d k gg hg h9 s (oth d s q hs)
    · obtain ⟨r1, r2⟩ := j8 d hd
      refine ⟨r1, fun s hs b hb => ?_⟩
      have q : d ≠ nf - 1 := fun q => by
        subst q
        unfold rsA at hd
        have : ¬ nf - 1 + 1 < nf := by omega
        simp [this] at hd
      exact r2 s (oth d s q hs) b hb
  · by_cases q : d = nf - 1
    · subst q
      rw [setF_s]
      obtain ⟨y1, y2, y3⟩ := i3 (nf - 1) hd
      refine ⟨y1, fun k s hk => ?_, y3⟩
      obtain ⟨s0, s1, s2, s3, s4, s5, s6⟩ := wkL_s (show wkL ls (fr (nf - 1)) L2 k = some s from hk)
      obtain ⟨p1, p2, p3, p4⟩ := y2 k s0 s1
      exact ⟨p1, by rw [s2]; exact p2, by rw [s2, s4]; exact p3, by rw [s3]; exact p4⟩
    · rw [setF_n q]; exact i3 d hd
/-- less is known on both sides -/
theorem Sm.weak (hlg : ∀ k, k < ls.length → isR (ls.getD k []) = true → Lgn pk (fr (nf - 1)).1.1 (fr (nf - 1)).1.2.1 k) (h : Sm E sh n pk kt sl0 lim e zr zc H m ty fr nf na ak g Hc mc phi Rn cs cl cn ws) (fm : FM U ls (fr (nf - 1)) L) (le : leD U ls L L2) : Sm E sh n pk kt sl0 lim e zr zc H m ty (setF fr (nf - 1) (wkF ls (fr (nf - 1)) L2)) nf na ak g Hc mc phi Rn cs cl cn ws := by
  have n0 := h.nf0
  obtain ⟨I, rm0, cm0, cj, r, sr, an, na2, rn, rm1, rm2⟩ := h
  refine ⟨I.less fm le, ?_, ?_, cj, r, ?_, an, na2, rn, rm1, rm2⟩
  · obtain ⟨hL, hr, hM, hf, ha, g1, g2, g3, g4⟩ := rm0
    have tp := hf.top
    obtain ⟨⟨a1, a2, a3, a4, a5, a6, a7⟩, t2, t3⟩ := tp
    refine ⟨hL, hr, hM, hf.set (z' := zr) _ rfl a1 (by rw [hf.2.2.2.1, t2]; rfl) (fun _ _ _ _ _ => rfl) ⟨a2, a3, a4, a5⟩ (fun _ _ => ⟨rfl, rfl⟩) (fun _ _ => ⟨rfl, rfl⟩) a6 (fun k s hs => ?_), ha, g1, g2, g3, g4⟩
    obtain ⟨s0, s1, s2, s3, _⟩ := wkL_s (show wkL ls (fr (nf - 1)) L2 k = some s from hs)
    obtain ⟨b1, b2, b3⟩ := a7 k s0 s1
    refine ⟨b1, by rw [s2]; exact b2, ?_⟩
    rw [b3]
    show bI (decide (s0.2.1 ≠ 0)) = bI (decide (s.2.1 ≠ 0))
    rw [s3]
  · obtain ⟨c1, c2, c3, c4⟩ := cm0
    refine ⟨c1, c2, ⟨c3.1, c3.2.1, c3.2.2.1, fun d hd => ?_⟩, c4⟩
    have := c3.2.2.2 d hd
    by_cases q : d = nf - 1
    · subst q
      unfold CFd
      rw [setF_s]
      obtain ⟨a1, a2, a3, a4, a5, a6, a7, a8⟩ := this
      refine ⟨a1, a2, a3, a4, a5, a6, fun k s hs => ?_, fun k h40 hs => ?_⟩
      · obtain ⟨s0, s1, _⟩ := wkL_s (show wkL ls (fr (nf - 1)) L2 k = some s from hs)
        exact a7 k s0 s1
      · have hs' : wkL ls (fr (nf - 1)) L2 k = none := hs
        cases q : (fr (nf - 1)).2.1 k with
        | none => exact a8 k h40 q
        | some s =>
          right
          unfold wkL at hs'
          rw [q] at hs'
          have kl : k < ls.length := by
            by_cases c : k < ls.length
            · exact c
            · rw [fm.2.2.2.2 k (by omega)] at q; exact absurd q (by simp)
          have z : s.2.1 ≠ 0 := fun z => by
            by_cases c : k < ls.length ∧ L2.2.1 k = true
            · rw [if_pos c] at hs'; exact absurd hs' (by simp)
            · rw [if_neg c] at hs'
              simp [z] at hs'
          refine hlg k kl ?_
          cases qq : L.2.1 k with
          | false => exact absurd ((fm.2.2.2.1 k kl).2 qq s q).1 z
          | true =>
            obtain ⟨s9, t1, t2⟩ := (fm.2.2.2.1 k kl).1 qq
            rw [q] at t1
            have e : s = s9 := by simpa using t1
            subst e
            cases r : isR (ls.getD k []) with
            | true => rfl
            | false =>
              have t3 := t2.1
              rw [sR, if_neg (by rw [r]; simp)] at t3
              exact absurd t3 z
    · unfold CFd at this ⊢
      rw [setF_n q]; exact this
  · refine sr.relay (fun x d k => (x, d, k)) (0, nf, 0) (fun x d k t c q => ?_)
    rcases Vs_t (cs := cs) (cl := cl) (fun d k hd => ⟨rfl, rfl⟩) q with ⟨q1, q2⟩ | ⟨q1, q2, q3⟩
    · exact ⟨sr.1 _ _ _ _ _ q2, fun r => .inl ⟨x, d, k, t, q2, r, rfl⟩⟩
    · subst q1
      rcases q3 with ⟨a1, a2, a3, a4⟩ | ⟨a1, a2, a3⟩
      · subst a1
        have V0 : Vs fr cs cl nf 0 (nf - 1) k = some (t, c) := by rw [Vs_0 q2 a2, a3, a4]; rfl
        exact ⟨sr.1 _ _ _ _ _ V0, fun r => .inl ⟨0, nf - 1, k, t, V0, r, rfl⟩⟩
      · subst a1
        obtain ⟨s0, s1, s2, s3, _⟩ := wkL_s (show wkL ls (fr (nf - 1)) L2 k = some t from a2)
        have V1 : Vs fr cs cl nf 1 (nf - 1) k = some (s0, c) := by rw [Vs_1 q2 s1, a3]
        have w := sr.1 _ _ _ _ _ V1
        exact ⟨⟨fun z => by rw [s2]; exact w.1 (by rw [← s3]; exact z), fun z => by rw [s2]; exact w.2 (by rw [← s3]; exact z)⟩, fun r => .inl ⟨1, nf - 1, k, s0, V1, by rw [← s3]; exact r, rfl⟩⟩
end
