/-! THE MACHINE'S STATE with its coins: operations as a whole -/
/-- a type in which no coin is -/
def NCl (E : Ev) (t : Nat) : Prop := ∃ S : Nat → Prop, S t ∧ ∀ u, S u → u ≠ 11 ∧ u ≠ 256 ∧ (256 < u → u < 2 ^ 32 → ∀ c, c ∈ E.1 (u - 256) → S c) ∧ (2 ^ 32 ≤ u → S (u - 2 ^ 32))
theorem nc_kid {E : Ev} {S : Nat → Prop} (hS : ∀ u, S u → u ≠ 11 ∧ u ≠ 256 ∧ (256 < u → u < 2 ^ 32 → ∀ c, c ∈ E.1 (u - 256) → S c) ∧ (2 ^ 32 ≤ u → S (u - 2 ^ 32))) {t : Nat} {x : Nd} {ts : List Nat} (ht : S t) (h : LTm E t x ts) : ∀ c, c ∈ ts → S c := by
  intro c hc
  obtain ⟨_, n2, n3, n4⟩ := hS t ht
  rcases h with h | h | h | h | h | h | h | h
  · rw [h.2.2.2.2] at hc; exact absurd hc (by simp)
  · rw [h.2.2.2.2] at hc; exact absurd hc (by simp)
  · rw [h.2.2.2] at hc; exact absurd hc (by simp)
  · rw [h.2.2] at hc; exact absurd hc (by simp)
  · rw [h.2.2.2] at hc; exact absurd hc (by simp)
  · exact absurd h.1 n2
  · obtain ⟨h1, h2, _, _, _, e, _⟩ := h
    rw [e] at hc
    exact n3 h1 h2 c hc
  · obtain ⟨h1, _, _, _, e, _⟩ := h
    rw [e c hc]; exact n4 h1
theorem CpM.nc {E : Ev} {H : Hp} {m : Nat} {ty : Nat → Nat} (ht : HT E H m ty) {d v : Nat} {H' : Hp} {u' : Nat} {o : Nat → Nat} (c : CpM H m d v H' u' o) (hn : NCl E (ty v)) : ∀ i, m ≤ i → i < u' → ty (o i) ≠ 11 := by
  have td := c.typed ht
  obtain ⟨_, _, _, c4, _, c6⟩ := c
  obtain ⟨S, s0, hS⟩ := hn
  have key : ∀ k i, i < k → m ≤ i → i < u' → S (ty (o i)) := by
    intro k
    induction k with
    | zero => intro i h; omega
    | succ k ih =>
      intro i h1 h2 h3
      by_cases q : i = m
      · rw [q, c4]; exact s0
      · obtain ⟨j, j1, j2, j3⟩ := c6 i (by omega) h3
        have := nc_kid hS (ih j (by omega) j1 (by omega)) (td j j1 (by omega)).2.1 _ (List.mem_map_of_mem j3)
        rw [if_neg (by omega)] at this
        exact this
  intro i h1 h2
  exact (hS _ (key (i + 1) i (by omega) h1 h2)).1
section
variable {E : Ev} {H : Hp} {m : Nat} {ty : Nat → Nat} {fr : Nat → Fm} {nf na : Nat} {ak : Nat → Ask} {hd : Nat → Option Nat}
theorem MJ.psh {X : Nat} (I : MJ E H m ty fr nf na ak (fun i => if i = 0 then some X else none)) {s : Sl} (h1 : s.1 = X) (h2 : s.2.1 = 0) (h3 : ty s.1 = s.2.2.1) : MJ E H m ty (setF fr (nf - 1) (pshV (fr (nf - 1)) s)) nf na ak (fun _ => none) := by
  have J := I.pushN 1 (fun _ => s) (fun i hi => ⟨by rw [show i = 0 by omega]; simp [h1], h2, h3⟩)
  have e : (fun i => if i < 1 then none else if i = 0 then some X else none) = (fun _ => (none : Option Nat)) := by
    funext i
    by_cases c : i < 1
    · rw [if_pos c]
    · rw [if_neg c, if_neg (by omega)]
  rw [e] at J
  exact J
theorem MJ.drp (I : MJ E H m ty fr nf na ak (fun _ => none)) (n : Nat) : MJ E H m ty (setF fr (nf - 1) (setH (fr (nf - 1)) ((fr (nf - 1)).2.2.1.1 - n))) nf na ak (fun _ => none) := I.dropN n (fun _ _ q => q)
theorem MJ.num (I : MJ E H m ty fr nf na ak (fun _ => none)) (hE : EvOk E) (n : Nat) {k t : Nat} {x y : Int64} (ht : LTm E t (k, x, y, []) []) (h38 : E.2.1 t ≤ 38) (h11 : t ≠ 11) : MJ E (upH H m (k, x, y, [])) (m + 1) (fun i => if i = m then t else ty i) (setF fr (nf - 1) (pshV (setH (fr (nf - 1)) ((fr (nf - 1)).2.2.1.1 - n)) (m, 0, t, 0, false))) nf na ak (fun _ => none) := by
  have J := (I.drp n).fresh hE (H' := upH H m (k, x, y, [])) (m' := m + 1) (ty' := fun i => if i = m then t else ty i) (by omega) (fun v hv => ⟨upH_n (by omega), if_neg (by omega)⟩) (fun v hv => by rw [upH_n (by omega)]; exact I.dead (by omega)) (fun i i1 i2 => by
    have e : i = m := by omega
    subst e
    have ek : kds (upH H i (k, x, y, [])) i = [] := by unfold kds; rw [upH_s]
    rw [ek, upH_s]
    simp only [if_true]
    exact ⟨ht.kd.1, ht, by simp, h38, fun c hc => absurd hc (by simp), fun j _ _ c hc => absurd hc (by simp)⟩) rfl (fun i i1 i2 => by simp only [if_pos (show i = m by omega)]; exact h11)
  have := J.psh (s := (m, 0, t, 0, false)) rfl rfl (by simp)
  rw [setF_s, setF_2] at this
  exact this
theorem MJ.cpy (I : MJ E H m ty fr nf na ak (fun _ => none)) (hE : EvOk E) (n : Nat) {d v : Nat} {H' : Hp} {u' : Nat} {o : Nat → Nat} (c : CpM H m d v H' u' o) (hsz : 1 ≤ szM H d v) (hnc : NCl E (ty v)) : MJ E H' u' (fun j => if j < m then ty j else ty (o j)) (setF fr (nf - 1) (pshV (setH (fr (nf - 1)) ((fr (nf - 1)).2.2.1.1 - n)) (m, 0, ty v, 0, false))) nf na ak (fun _ => none) := by
  have tyd := c.typed I.2.1
  have hcf := c.nc I.2.1 hnc
  obtain ⟨c1, c2, c3, c4, _, _⟩ := c
  have J := (I.drp n).fresh hE (H' := H') (m' := u') (ty' := fun j => if j < m then ty j else ty (o j)) (by omega) (fun w hw => ⟨c2 w hw, if_pos hw⟩) c3 (fun i i1 i2 => by
    simp only [if_neg (show ¬ i < m by omega)]
    exact tyd i i1 i2) rfl (fun i i1 i2 => by simp only [if_neg (show ¬ i < m by omega)]; exact hcf i i1 i2)
  have := J.psh (s := (m, 0, ty v, 0, false)) rfl rfl (by simp [c4])
  rw [setF_s, setF_2] at this
  exact this
theorem MJ.pr (I : MJ E H m ty fr nf na ak (fun _ => none)) (n : Nat) {s : Sl} (h : rOk E H fr nf na ak (fun _ => none) s) (ht : SlT H ty s) (h9 : s.2.1 ≠ 0) : MJ E H m ty (setF fr (nf - 1) (setS (setH (fr (nf - 1)) ((fr (nf - 1)).2.2.1.1 - n)) ((fr (nf - 1)).2.2.1.1 - n) s)) nf na ak (fun _ => none) := by
  have J := (I.drp n).pushR (rOk.drp I.m0 n h) ht h9
  rw [setF_s, setF_2] at J
  exact J
theorem MJ.mov (I : MJ E H m ty fr nf na ak (fun _ => none)) {k : Nat} {s : Sl} (hk : (fr (nf - 1)).2.1 k = some s) (hf : s.2.1 = 0 → ∀ q, RfA fr nf (nf - 1) q → ob q.2.2.2.1 k = false) : MJ E H m ty (setF fr (nf - 1) (pshV (setLo (fr (nf - 1)) k none) s)) nf na ak (fun _ => none) := by
  by_cases c : s.2.1 = 0
  · have J := I.locOut hk c (hf c)
    have := J.psh (s := s) rfl c (I.sl.2 k s hk).2.2.1
    rw [setF_s, setF_2] at this
    exact this
  · have hr : RfA fr nf (nf - 1) s := ⟨by have := I.nf0; omega, c, .inr (.inl ⟨k, hk⟩)⟩
    have J := I.locR (k := k) (s := none) (fun q hq => by rw [hk] at hq; cases hq; exact c) (fun q hq => absurd hq (by simp))
    have h := I.1.2.2.2.1 _ s hr
    have h' : rOk E H (setF fr (nf - 1) (setLo (fr (nf - 1)) k none)) nf na ak (fun _ => none) s := by
      unfold rOk
      rw [setF_gh (fr := fr) (d := nf - 1) (x := setLo (fr (nf - 1)) k none) (fun _ => rfl), setF_rs (fr := fr) (d := nf - 1) (x := setLo (fr (nf - 1)) k none) rfl rfl, setF_rb (fr := fr) (d := nf - 1) (x := setLo (fr (nf - 1)) k none) rfl]
      refine h.lv (fun a e j X h0 h1 h2 h3 => ?_)
      have a4 := lv4 h1
      by_cases c1 : a = 1
      · subst c1
        rw [lv1] at h1 ⊢
        by_cases ce : e = nf - 1
        · subst ce
          rw [setF_s]
          simp only [setLo]
          by_cases cj : j = k
          · subst cj
            rw [if_pos (by have := I.nf0; omega), hk, Option.bind_some, pln, if_neg c] at h1
            exact absurd h1 (by simp)
          · rw [if_neg cj]; exact h1
        · rw [setF_n ce]; exact h1
      · by_cases c2 : a = 2
        · subst c2; exact h1
        · have : a = 3 := by omega
          subst this; exact h1
    have K := J.pushR h' (I.sl.2 k s hk).2 c
    rw [setF_s, setF_2] at K
    -- setS and setN are one below the height
    have W := K.weak (pshV (setLo (fr (nf - 1)) k none) s) (by rw [setF_s]; rfl) (by rw [setF_s]; rfl) (fun j => I.g0 j) (by rw [setF_s]; rfl) (fun j hj => by
      rw [setF_s]
      simp only [pshV, setN, setLo] at hj
      show wk (if j = (fr (nf - 1)).2.2.1.1 then s else (fr (nf - 1)).2.2.1.2 j) (if j < (fr (nf - 1)).2.2.1.1 then (fr (nf - 1)).2.2.1.2 j else s)
      by_cases cj : j = (fr (nf - 1)).2.2.1.1
      · rw [if_pos cj, if_neg (by omega)]; exact ⟨rfl, rfl, rfl, fun _ h => h, fun h => h⟩
      · rw [if_neg cj, if_pos (by omega)]; exact ⟨rfl, rfl, rfl, fun _ h => h, fun h => h⟩) (fun j => by
      rw [setF_s]
      simp only [pshV, setN, setLo, setS]
      by_cases cj : j = k
      · rw [if_pos cj]; exact .inl ⟨rfl, fun q hq => absurd hq (by simp)⟩
      · rw [if_neg cj]
        cases hl : (fr (nf - 1)).2.1 j with
        | none => exact .inl ⟨rfl, fun q hq => absurd hq (by simp)⟩
        | some q => exact .inr ⟨q, q, rfl, rfl, rfl, rfl, rfl, fun _ h => h, fun h => h⟩)
    rw [setF_2] at W
    exact W
theorem MJ.sto (I : MJ E H m ty fr nf na ak (fun _ => none)) {k : Nat} (h0 : 0 < (fr (nf - 1)).2.2.1.1) (h40 : k < 40) (hp : ∀ q, (fr (nf - 1)).2.1 k = some q → (q.2.1 = 0 ↔ ((fr (nf - 1)).2.2.1.2 ((fr (nf - 1)).2.2.1.1 - 1)).2.1 = 0)) (hf : ((fr (nf - 1)).2.2.1.2 ((fr (nf - 1)).2.2.1.1 - 1)).2.1 = 0 → ∀ s, s.2.1 ≠ 0 → ((∃ j, j < (fr (nf - 1)).2.2.1.1 - 1 ∧ (fr (nf - 1)).2.2.1.2 j = s) ∨ ∃ j, (fr (nf - 1)).2.1 j = some s) → ob s.2.2.2.1 k = false) : MJ E H m ty (setF fr (nf - 1) (setLo (setH (fr (nf - 1)) ((fr (nf - 1)).2.2.1.1 - 1)) k (some ((fr (nf - 1)).2.2.1.2 ((fr (nf - 1)).2.2.1.1 - 1))))) nf na ak (fun _ => none) := by
  have st := I.sl.1 ((fr (nf - 1)).2.2.1.1 - 1) (by omega)
  by_cases c : ((fr (nf - 1)).2.2.1.2 ((fr (nf - 1)).2.2.1.1 - 1)).2.1 = 0
  · have J := I.popN (n := 1) (by omega) (fun i hi => by rw [show (fr (nf - 1)).2.2.1.1 - 1 + i = (fr (nf - 1)).2.2.1.1 - 1 by omega]; exact c)
    have e : (fun i => if i < 1 then some ((fr (nf - 1)).2.2.1.2 ((fr (nf - 1)).2.2.1.1 - 1 + i)).1 else none) = (fun i => if i = 0 then some ((fr (nf - 1)).2.2.1.2 ((fr (nf - 1)).2.2.1.1 - 1)).1 else none) := by
      funext i
      by_cases q : i = 0
      · subst q; simp
      · rw [if_neg (by omega), if_neg q]
    rw [e] at J
    have K := J.locIn (k := k) (s := (fr (nf - 1)).2.2.1.2 ((fr (nf - 1)).2.2.1.1 - 1)) rfl c st.2.1 h40 (fun q ⟨_, q2, q3⟩ => by
      rw [setF_s] at q3
      refine hf c q q2 ?_
      rcases q3 with q3 | q3 | ⟨j, q3⟩
      · exact .inl q3
      · exact .inr q3
      · rw [show (setH (fr (nf - 1)) ((fr (nf - 1)).2.2.1.1 - 1)).2.2.2 j = (fr (nf - 1)).2.2.2 j from rfl, I.g0 j] at q3; exact absurd q3 (by simp)) (fun q hq => by rw [setF_s] at hq; exact (hp q hq).mpr c)
    rw [setF_s, setF_2] at K
    exact K
  · have hr : RfA fr nf (nf - 1) ((fr (nf - 1)).2.2.1.2 ((fr (nf - 1)).2.2.1.1 - 1)) := ⟨by have := I.nf0; omega, c, .inl ⟨_, by omega, rfl⟩⟩
    have K := (I.drp 1).locR (k := k) (s := some ((fr (nf - 1)).2.2.1.2 ((fr (nf - 1)).2.2.1.1 - 1))) (fun q hq => by
      rw [setF_s] at hq
      exact fun q0 => c ((hp q hq).mp q0)) (fun q hq => by
      cases hq
      exact ⟨h40, c, st, rOk.drp I.m0 1 (I.1.2.2.2.1 _ _ hr)⟩)
    rw [setF_s, setF_2] at K
    exact K
theorem MJ.pk (I : MJ E H m ty fr nf na ak (fun _ => none)) (hE : EvOk E) {n : Nat} (hn : n ≤ (fr (nf - 1)).2.2.1.1) (hp : ∀ i, i < n → ((fr (nf - 1)).2.2.1.2 ((fr (nf - 1)).2.2.1.1 - n + i)).2.1 = 0) {k t : Nat} {lo : Int64} (ht : LTm E t (k, 0, lo, (List.range n).map (fun i => ((fr (nf - 1)).2.2.1.2 ((fr (nf - 1)).2.2.1.1 - n + i)).1)) (((List.range n).map (fun i => ((fr (nf - 1)).2.2.1.2 ((fr (nf - 1)).2.2.1.1 - n + i)).1)).map ty)) (h38 : E.2.1 t ≤ 38) (h11 : t ≠ 11) : MJ E (upH H m (k, 0, lo, (List.range n).map (fun i => ((fr (nf - 1)).2.2.1.2 ((fr (nf - 1)).2.2.1.1 - n + i)).1))) (m + 1) (fun i => if i = m then t else ty i) (setF fr (nf - 1) (pshV (setH (fr (nf - 1)) ((fr (nf - 1)).2.2.1.1 - n)) (m, 0, t, 0, false))) nf na ak (fun _ => none) := by
  have J := I.popN hn hp
  have K := J.pack hE (cs := (List.range n).map (fun i => ((fr (nf - 1)).2.2.1.2 ((fr (nf - 1)).2.2.1.1 - n + i)).1)) (fun c hc => by
    obtain ⟨i, i1, i2⟩ := List.mem_map.mp hc
    exact ⟨i, by rw [if_pos (List.mem_range.mp i1), i2]⟩) (by
    unfold List.Nodup
    rw [List.pairwise_map, List.pairwise_iff_getElem]
    intro i j hi hj hij e
    simp only [List.getElem_range] at e
    rw [List.length_range] at hi hj
    have a1 : LvA (setF fr (nf - 1) (setH (fr (nf - 1)) ((fr (nf - 1)).2.2.1.1 - n))) nf na ak (fun i => if i < n then some ((fr (nf - 1)).2.2.1.2 ((fr (nf - 1)).2.2.1.1 - n + i)).1 else none) 3 0 i = some ((fr (nf - 1)).2.2.1.2 ((fr (nf - 1)).2.2.1.1 - n + i)).1 := by rw [lv3, if_pos rfl, if_pos hi]
    have a2 : LvA (setF fr (nf - 1) (setH (fr (nf - 1)) ((fr (nf - 1)).2.2.1.1 - n))) nf na ak (fun i => if i < n then some ((fr (nf - 1)).2.2.1.2 ((fr (nf - 1)).2.2.1.1 - n + i)).1 else none) 3 0 j = some ((fr (nf - 1)).2.2.1.2 ((fr (nf - 1)).2.2.1.1 - n + i)).1 := by rw [lv3, if_pos rfl, if_pos hj, e]
    have := (J.1.2.2.1 _ _ _ _ _ _ _ a1 a2).2.2
    omega) ht.kd.1 ht h38 h11
  have := K.psh (s := (m, 0, t, 0, false)) rfl rfl (by simp)
  rw [setF_s, setF_2] at this
  exact this
theorem liv_drp {n : Nat} (hn : ∀ i, i < n → i < (fr (nf - 1)).2.2.1.1 → ((fr (nf - 1)).2.2.1.2 ((fr (nf - 1)).2.2.1.1 - 1 - i)).2.1 ≠ 0) {v : Nat} (h : Liv H (LvA fr nf na ak hd) v) : Liv H (LvA (setF fr (nf - 1) (setH (fr (nf - 1)) ((fr (nf - 1)).2.2.1.1 - n))) nf na ak hd) v := by
  obtain ⟨a, d, k, X, hX, hs⟩ := h
  refine ⟨a, d, k, X, ?_, hs⟩
  rw [← hX]
  by_cases c : a ≤ 1 ∧ d = nf - 1
  · obtain ⟨c1, c2⟩ := c
    subst c2
    by_cases c3 : a = 0
    · subst c3
      rw [lv0] at hX
      rw [lv0, lv0, setF_s]
      by_cases c4 : nf - 1 < nf ∧ k < (fr (nf - 1)).2.2.1.1
      · rw [if_pos c4] at hX
        by_cases c5 : k < (fr (nf - 1)).2.2.1.1 - n
        · rw [if_pos c4, if_pos ⟨c4.1, c5⟩]; rfl
        · have := hn ((fr (nf - 1)).2.2.1.1 - 1 - k) (by omega) (by omega)
          rw [show (fr (nf - 1)).2.2.1.1 - 1 - ((fr (nf - 1)).2.2.1.1 - 1 - k) = k by omega] at this
          exact absurd (pln_e hX).1 this
      · rw [if_neg c4] at hX; exact absurd hX (by simp)
    · have : a = 1 := by omega
      subst this
      rw [lv1, lv1, setF_s]; rfl
  · by_cases c3 : a = 3
    · subst c3; rw [lv3, lv3]
    · exact lvo c3 c
theorem MJ.soleN (I : MJ E H m ty fr nf na ak hd) {j : Nat} (hj : j < (fr (nf - 1)).2.2.1.1) (h9 : ((fr (nf - 1)).2.2.1.2 j).2.1 = 9) (hs : ∀ s, s.2.1 ≠ 0 → ((∃ k, k < (fr (nf - 1)).2.2.1.1 ∧ k ≠ j ∧ (fr (nf - 1)).2.2.1.2 k = s) ∨ ∃ k, (fr (nf - 1)).2.1 k = some s) → mt s.2.2.2.1 ((fr (nf - 1)).2.2.1.2 j).2.2.2.1 → s.2.1 = 9 ∧ s.2.2.2.2 = false) : ∀ d s, RfA fr nf d s → Sub H ((fr (nf - 1)).2.2.1.2 j).1 s.1 → s.1 = ((fr (nf - 1)).2.2.1.2 j).1 := by
  have hr : RfA fr nf (nf - 1) ((fr (nf - 1)).2.2.1.2 j) := ⟨by have := I.nf0; omega, by rw [h9]; decide, .inl ⟨j, hj, rfl⟩⟩
  intro d s q
  refine I.1.sole (nf - 1) _ hr h9 (fun t ⟨_, t2, t3⟩ => ?_) d s (by have := q.1; omega) q
  rcases t3 with ⟨k, k1, k2⟩ | t3 | ⟨k, t3⟩
  · by_cases c : k = j
    · subst c; exact .inl k2.symm
    · exact .inr (hs t t2 (.inl ⟨k, k1, c, k2⟩))
  · exact .inr (hs t t2 (.inr t3))
  · rw [I.g0 k] at t3; exact absurd t3 (by simp)
theorem MJ.offV (I : MJ E H m ty fr nf na ak hd) {j : Nat} (hj : j < (fr (nf - 1)).2.2.1.1) (h0 : ((fr (nf - 1)).2.2.1.2 j).2.1 = 0) : ∀ d s, RfA fr nf d s → ¬ Sub H ((fr (nf - 1)).2.2.1.2 j).1 s.1 := by
  have hl : LvA fr nf na ak hd 0 (nf - 1) j = some ((fr (nf - 1)).2.2.1.2 j).1 := by rw [I.at0 hj, pln0 h0]
  exact I.1.free hl (by decide) (by decide)
theorem MJ.wr (I : MJ E H m ty fr nf na ak (fun _ => none)) (hE : EvOk E) (h2 : 2 ≤ (fr (nf - 1)).2.2.1.1) (h9 : ((fr (nf - 1)).2.2.1.2 ((fr (nf - 1)).2.2.1.1 - 1)).2.1 = 9) (h0 : ((fr (nf - 1)).2.2.1.2 ((fr (nf - 1)).2.2.1.1 - 2)).2.1 = 0) (ht : ((fr (nf - 1)).2.2.1.2 ((fr (nf - 1)).2.2.1.1 - 1)).2.2.1 = ((fr (nf - 1)).2.2.1.2 ((fr (nf - 1)).2.2.1.1 - 2)).2.2.1) (hs : ∀ s, s.2.1 ≠ 0 → ((∃ k, k < (fr (nf - 1)).2.2.1.1 ∧ k ≠ (fr (nf - 1)).2.2.1.1 - 1 ∧ (fr (nf - 1)).2.2.1.2 k = s) ∨ ∃ k, (fr (nf - 1)).2.1 k = some s) → mt s.2.2.2.1 ((fr (nf - 1)).2.2.1.2 ((fr (nf - 1)).2.2.1.1 - 1)).2.2.2.1 → s.2.1 = 9 ∧ s.2.2.2.2 = false) : MJ E (upH (upH H ((fr (nf - 1)).2.2.1.2 ((fr (nf - 1)).2.2.1.1 - 1)).1 (H ((fr (nf - 1)).2.2.1.2 ((fr (nf - 1)).2.2.1.1 - 2)).1)) ((fr (nf - 1)).2.2.1.2 ((fr (nf - 1)).2.2.1.1 - 2)).1 (0, 0, 0, [])) m ty (setF fr (nf - 1) (setH (fr (nf - 1)) ((fr (nf - 1)).2.2.1.1 - 2))) nf na ak (fun _ => none) ∧ ((fr (nf - 1)).2.2.1.2 ((fr (nf - 1)).2.2.1.1 - 1)).1 ≠ ((fr (nf - 1)).2.2.1.2 ((fr (nf - 1)).2.2.1.1 - 2)).1 := by
  have so := I.soleN (j := (fr (nf - 1)).2.2.1.1 - 1) (by omega) h9 hs
  have hv := I.offV (j := (fr (nf - 1)).2.2.1.1 - 2) (by omega) h0
  have hr : RfA fr nf (nf - 1) ((fr (nf - 1)).2.2.1.2 ((fr (nf - 1)).2.2.1.1 - 1)) := ⟨by have := I.nf0; omega, by rw [h9]; decide, .inl ⟨_, by omega, rfl⟩⟩
  have J := I.drp 1
  have K := J.popN (n := 1) (by rw [setF_s]; simp only [setH]; omega) (fun i hi => by rw [setF_s]; simp only [setH]; rw [show (fr (nf - 1)).2.2.1.1 - 1 - 1 + i = (fr (nf - 1)).2.2.1.1 - 2 by omega]; exact h0)
  rw [setF_s, setF_2] at K
  simp only [setH] at K
  rw [show (fr (nf - 1)).2.2.1.1 - 1 - 1 = (fr (nf - 1)).2.2.1.1 - 2 by omega] at K
  have e : (fun i => if i < 1 then some ((fr (nf - 1)).2.2.1.2 ((fr (nf - 1)).2.2.1.1 - 2 + i)).1 else none) = (fun i => if i = 0 then some ((fr (nf - 1)).2.2.1.2 ((fr (nf - 1)).2.2.1.1 - 2)).1 else none) := by
    funext i
    by_cases q : i = 0
    · subst q; simp
    · rw [if_neg (by omega), if_neg q]
  rw [e] at K
  have s1 := I.sl.1 ((fr (nf - 1)).2.2.1.1 - 1) (by omega)
  have s2 := I.sl.1 ((fr (nf - 1)).2.2.1.1 - 2) (by omega)
  have off := hv _ _ hr
  refine ⟨K.write hE (x := ((fr (nf - 1)).2.2.1.2 ((fr (nf - 1)).2.2.1.1 - 2)).1) (by simp) s1.1 (by rw [s1.2.1, s2.2.1, ht]) off (fun d s q => so d s (rfa_drp (n := 2) q)), fun q => off (by rw [q]; exact Sub.refl H _)⟩
theorem MJ.upk (I : MJ E H m ty fr nf na ak (fun _ => none)) (hE : EvOk E) (h1 : 1 ≤ (fr (nf - 1)).2.2.1.1) (h0 : ((fr (nf - 1)).2.2.1.2 ((fr (nf - 1)).2.2.1.1 - 1)).2.1 = 0) (sl : Nat → Sl) (hs : ∀ (i c : Nat), (kds H ((fr (nf - 1)).2.2.1.2 ((fr (nf - 1)).2.2.1.1 - 1)).1)[i]? = some c → sl i = (c, 0, ty c, 0, false)) : MJ E (upH H ((fr (nf - 1)).2.2.1.2 ((fr (nf - 1)).2.2.1.1 - 1)).1 (0, 0, 0, [])) m ty (setF fr (nf - 1) (setN (setH (fr (nf - 1)) ((fr (nf - 1)).2.2.1.1 - 1)) (kds H ((fr (nf - 1)).2.2.1.2 ((fr (nf - 1)).2.2.1.1 - 1)).1).length sl)) nf na ak (fun _ => none) := by
  have J := I.popN (n := 1) h1 (fun i hi => by rw [show (fr (nf - 1)).2.2.1.1 - 1 + i = (fr (nf - 1)).2.2.1.1 - 1 by omega]; exact h0)
  have K := J.unpack hE (x := ((fr (nf - 1)).2.2.1.2 ((fr (nf - 1)).2.2.1.1 - 1)).1) (by simp)
  have M := K.pushN (kds H ((fr (nf - 1)).2.2.1.2 ((fr (nf - 1)).2.2.1.1 - 1)).1).length sl (fun i hi => by
    have e := List.getElem?_eq_getElem hi
    rw [hs i _ e]
    exact ⟨e, rfl, rfl⟩)
  have e : (fun i => if i < (kds H ((fr (nf - 1)).2.2.1.2 ((fr (nf - 1)).2.2.1.1 - 1)).1).length then none else (kds H ((fr (nf - 1)).2.2.1.2 ((fr (nf - 1)).2.2.1.1 - 1)).1)[i]?) = (fun _ => (none : Option Nat)) := by
    funext i
    by_cases c : i < (kds H ((fr (nf - 1)).2.2.1.2 ((fr (nf - 1)).2.2.1.1 - 1)).1).length
    · rw [if_pos c]
    · rw [if_neg c]; exact List.getElem?_eq_none (by omega)
  rw [e, setF_s, setF_2] at M
  exact M
theorem MJ.app (I : MJ E H m ty fr nf na ak (fun _ => none)) (hE : EvOk E) (h2 : 2 ≤ (fr (nf - 1)).2.2.1.1) (h9 : ((fr (nf - 1)).2.2.1.2 ((fr (nf - 1)).2.2.1.1 - 2)).2.1 = 9) (h0 : ((fr (nf - 1)).2.2.1.2 ((fr (nf - 1)).2.2.1.1 - 1)).2.1 = 0) (ht : LTm E (ty ((fr (nf - 1)).2.2.1.2 ((fr (nf - 1)).2.2.1.1 - 2)).1) (setC (H ((fr (nf - 1)).2.2.1.2 ((fr (nf - 1)).2.2.1.1 - 2)).1) (kds H ((fr (nf - 1)).2.2.1.2 ((fr (nf - 1)).2.2.1.1 - 2)).1 ++ [((fr (nf - 1)).2.2.1.2 ((fr (nf - 1)).2.2.1.1 - 1)).1])) ((kds H ((fr (nf - 1)).2.2.1.2 ((fr (nf - 1)).2.2.1.1 - 2)).1 ++ [((fr (nf - 1)).2.2.1.2 ((fr (nf - 1)).2.2.1.1 - 1)).1]).map ty)) (hs : ∀ s, s.2.1 ≠ 0 → ((∃ k, k < (fr (nf - 1)).2.2.1.1 ∧ k ≠ (fr (nf - 1)).2.2.1.1 - 2 ∧ (fr (nf - 1)).2.2.1.2 k = s) ∨ ∃ k, (fr (nf - 1)).2.1 k = some s) → mt s.2.2.2.1 ((fr (nf - 1)).2.2.1.2 ((fr (nf - 1)).2.2.1.1 - 2)).2.2.2.1 → s.2.1 = 9 ∧ s.2.2.2.2 = false) : MJ E (upH H ((fr (nf - 1)).2.2.1.2 ((fr (nf - 1)).2.2.1.1 - 2)).1 (setC (H ((fr (nf - 1)).2.2.1.2 ((fr (nf - 1)).2.2.1.1 - 2)).1) (kds H ((fr (nf - 1)).2.2.1.2 ((fr (nf - 1)).2.2.1.1 - 2)).1 ++ [((fr (nf - 1)).2.2.1.2 ((fr (nf - 1)).2.2.1.1 - 1)).1]))) m ty (setF fr (nf - 1) (setH (fr (nf - 1)) ((fr (nf - 1)).2.2.1.1 - 2))) nf na ak (fun _ => none) ∧ Rt H ((fr (nf - 1)).2.2.1.2 ((fr (nf - 1)).2.2.1.1 - 1)).1 := by
  have so := I.soleN (j := (fr (nf - 1)).2.2.1.1 - 2) (by omega) h9 hs
  have hv := I.offV (j := (fr (nf - 1)).2.2.1.1 - 1) (by omega) h0
  have hr : RfA fr nf (nf - 1) ((fr (nf - 1)).2.2.1.2 ((fr (nf - 1)).2.2.1.1 - 2)) := ⟨by have := I.nf0; omega, by rw [h9]; decide, .inl ⟨_, by omega, rfl⟩⟩
  have off := hv _ _ hr
  have rt : Rt H ((fr (nf - 1)).2.2.1.2 ((fr (nf - 1)).2.2.1.1 - 1)).1 := I.1.2.1 0 (nf - 1) _ _ (by rw [I.at0 (show (fr (nf - 1)).2.2.1.1 - 1 < (fr (nf - 1)).2.2.1.1 by omega), pln0 h0])
  refine ⟨?_, rt⟩
  have J := I.popN (n := 1) (by omega) (fun i hi => by rw [show (fr (nf - 1)).2.2.1.1 - 1 + i = (fr (nf - 1)).2.2.1.1 - 1 by omega]; exact h0)
  have K := J.dropN 1 (fun _ _ q => q)
  rw [setF_s, setF_2] at K
  simp only [setH] at K
  rw [show (fr (nf - 1)).2.2.1.1 - 1 - 1 = (fr (nf - 1)).2.2.1.1 - 2 by omega] at K
  have s1 := I.sl.1 ((fr (nf - 1)).2.2.1.1 - 2) (by omega)
  have nd := (I.2.1.2 _ s1.1).2.2.2.1
  refine K.parts hE s1.1 ht ?_ (fun c hc => ?_) (fun d s q => so d s (rfa_drp (n := 2) q))
  · rw [List.nodup_append]
    refine ⟨nd, by simp, fun a ha b hb => ?_⟩
    rw [List.mem_singleton.mp hb]
    intro e; subst e; exact rt _ ha
  · rcases List.mem_append.mp hc with q | q
    · exact .inl q
    · rw [List.mem_singleton.mp q]
      exact .inr ⟨⟨0, by simp⟩, off⟩
theorem MJ.rem (I : MJ E H m ty fr nf na ak (fun _ => none)) (hE : EvOk E) (h1 : 1 ≤ (fr (nf - 1)).2.2.1.1) (h9 : ((fr (nf - 1)).2.2.1.2 ((fr (nf - 1)).2.2.1.1 - 1)).2.1 = 9) {cs : List Nat} {c : Nat} (hk : kds H ((fr (nf - 1)).2.2.1.2 ((fr (nf - 1)).2.2.1.1 - 1)).1 = cs ++ [c]) (ht : LTm E (ty ((fr (nf - 1)).2.2.1.2 ((fr (nf - 1)).2.2.1.1 - 1)).1) (setC (H ((fr (nf - 1)).2.2.1.2 ((fr (nf - 1)).2.2.1.1 - 1)).1) cs) (cs.map ty)) (hs : ∀ s, s.2.1 ≠ 0 → ((∃ k, k < (fr (nf - 1)).2.2.1.1 ∧ k ≠ (fr (nf - 1)).2.2.1.1 - 1 ∧ (fr (nf - 1)).2.2.1.2 k = s) ∨ ∃ k, (fr (nf - 1)).2.1 k = some s) → mt s.2.2.2.1 ((fr (nf - 1)).2.2.1.2 ((fr (nf - 1)).2.2.1.1 - 1)).2.2.2.1 → s.2.1 = 9 ∧ s.2.2.2.2 = false) : MJ E (upH H ((fr (nf - 1)).2.2.1.2 ((fr (nf - 1)).2.2.1.1 - 1)).1 (setC (H ((fr (nf - 1)).2.2.1.2 ((fr (nf - 1)).2.2.1.1 - 1)).1) cs)) m ty (setF fr (nf - 1) (pshV (setH (fr (nf - 1)) ((fr (nf - 1)).2.2.1.1 - 1)) (c, 0, ty c, 0, false))) nf na ak (fun _ => none) := by
  have so := I.soleN (j := (fr (nf - 1)).2.2.1.1 - 1) (by omega) h9 hs
  have s1 := I.sl.1 ((fr (nf - 1)).2.2.1.1 - 1) (by omega)
  have K := (I.drp 1).last hE s1.1 hk ht (fun d s q => so d s (rfa_drp (n := 1) q)) (liv_drp (n := 1) (fun i i1 i2 => by rw [show i = 0 by omega, Nat.sub_zero, h9]; decide) (I.m0.rlive (nf - 1) _ ⟨by have := I.nf0; omega, by rw [h9]; decide, .inl ⟨(fr (nf - 1)).2.2.1.1 - 1, by omega, rfl⟩⟩))
  have := K.psh (s := (c, 0, ty c, 0, false)) rfl rfl rfl
  rw [setF_s, setF_2] at this
  exact this
theorem MJ.swp (I : MJ E H m ty fr nf na ak (fun _ => none)) (hE : EvOk E) (h3 : 3 ≤ (fr (nf - 1)).2.2.1.1) (h9 : ((fr (nf - 1)).2.2.1.2 ((fr (nf - 1)).2.2.1.1 - 3)).2.1 = 9) {p q : Nat} (hp : p ∈ kds H ((fr (nf - 1)).2.2.1.2 ((fr (nf - 1)).2.2.1.1 - 3)).1) (hq : q ∈ kds H ((fr (nf - 1)).2.2.1.2 ((fr (nf - 1)).2.2.1.1 - 3)).1) (ht : ty p = ty q) (hs : ∀ s, s.2.1 ≠ 0 → ((∃ k, k < (fr (nf - 1)).2.2.1.1 ∧ k ≠ (fr (nf - 1)).2.2.1.1 - 3 ∧ (fr (nf - 1)).2.2.1.2 k = s) ∨ ∃ k, (fr (nf - 1)).2.1 k = some s) → mt s.2.2.2.1 ((fr (nf - 1)).2.2.1.2 ((fr (nf - 1)).2.2.1.1 - 3)).2.2.2.1 → s.2.1 = 9 ∧ s.2.2.2.2 = false) : MJ E (upH (upH H p (H q)) q (H p)) m ty (setF fr (nf - 1) (setH (fr (nf - 1)) ((fr (nf - 1)).2.2.1.1 - 3))) nf na ak (fun _ => none) := by
  have so := I.soleN (j := (fr (nf - 1)).2.2.1.1 - 3) (by omega) h9 hs
  exact (I.drp 3).swap hE hp hq ht (fun d s x => so d s (rfa_drp (n := 3) x))
theorem MJ.at2 (k : Nat) : LvA fr nf na ak hd 2 0 k = if k < na ∧ (ak k).1 = 3 ∧ (ak k).2.2.2.2.1 = true then some (ak k).2.2.2.2.2 else none := by
  rw [lv2]
  by_cases c : k < na ∧ (ak k).1 = 3 ∧ (ak k).2.2.2.2.1 = true
  · rw [if_pos ⟨rfl, c⟩, if_pos c]
  · rw [if_neg (fun q => c q.2), if_neg c]
theorem AcOk.up {j : Nat} {x : Ask} (h : AcOk E na ak) (hx : x.1 = 1 → E.2.2.2.2 4 x.2.1 0 ≠ 0 → x.2.2.2.2.1 = true) : AcOk E na (upA ak j x) := fun i hi h1 h2 => by
  by_cases c : i = j
  · subst c; rw [upA_s] at h1 h2 ⊢; exact hx h1 h2
  · rw [upA_n c] at h1 h2 ⊢; exact h i hi h1 h2
theorem AcOk.new {x : Ask} (h : AcOk E na ak) (hx : x.1 = 1 → E.2.2.2.2 4 x.2.1 0 ≠ 0 → x.2.2.2.2.1 = true) : AcOk E (na + 1) (upA ak na x) := fun i hi h1 h2 => by
  by_cases c : i = na
  · subst c; rw [upA_s] at h1 h2 ⊢; exact hx h1 h2
  · rw [upA_n c] at h1 h2 ⊢; exact h i (by omega) h1 h2
theorem bS_up {j : Nat} {x : Ask} (hj : j < na) : bS (upA ak j x) na + ubA (ak j) = bS ak na + ubA x := by
  have := sN_up (f := fun k => ubA (upA ak j x k)) (g := fun k => ubA (ak k)) (n := na) hj (fun k q => by simp only [upA_n q])
  simp only [upA_s] at this
  exact this
theorem lS_up {j : Nat} {x : Ask} (hj : j < na) : lS E (upA ak j x) na + ldA E (ak j) = lS E ak na + ldA E x := by
  have := sN_up (f := fun k => ldA E (upA ak j x k)) (g := fun k => ldA E (ak k)) (n := na) hj (fun k q => by simp only [upA_n q])
  simp only [upA_s] at this
  exact this
theorem bS_new {x : Ask} : bS (upA ak na x) (na + 1) = bS ak na + ubA x := by
  show sN (fun k => ubA (upA ak na x k)) na + ubA (upA ak na x na) = _
  rw [upA_s, sN_cg (g := fun k => ubA (ak k)) (fun k hk => by rw [upA_n (by omega)])]; rfl
theorem lS_new {x : Ask} : lS E (upA ak na x) (na + 1) = lS E ak na + ldA E x := by
  show sN (fun k => ldA E (upA ak na x k)) na + ldA E (upA ak na x na) = _
  rw [upA_s, sN_cg (g := fun k => ldA E (ak k)) (fun k hk => by rw [upA_n (by omega)])]; rfl
theorem MJ.newE (I : MJ E H m ty fr nf na ak hd) (x : Ask) (hx : ¬ (x.1 = 3 ∧ x.2.2.2.2.1 = true)) (hub : ubA x ≤ ldA E x) (hac : x.1 = 1 → E.2.2.2.2 4 x.2.1 0 ≠ 0 → x.2.2.2.2.1 = true) : MJ E H m ty fr nf (na + 1) (upA ak na x) hd := by
  have key : ∀ k, k < na → upA ak na x k = ak k := fun k q => upA_n (by omega)
  refine I.ask (na + 1) (upA ak na x) hd (fun a d k => (a, d, k)) (fun _ _ _ _ => rfl) (fun k k1 k2 k3 => ?_) (fun k X q => ⟨3, 0, k, by rw [MJ.at3]; exact q, rfl⟩) (fun k k1 k2 k3 => ?_) (by omega) (fun k k1 => by rw [key k k1]) (fun k k1 k2 k3 => ?_) (by rw [bS_new, lS_new]; omega) (I.cp.2.new hac)
  · by_cases c : k = na
    · subst c; rw [upA_s] at k2 k3; exact absurd ⟨k2, k3⟩ hx
    · rw [key k (by omega)] at k2 k3 ⊢
      exact ⟨2, 0, k, by rw [MJ.at2, if_pos ⟨by omega, k2, k3⟩], rfl⟩
  · rw [key k k1]; exact .inl ⟨by omega, k2, k3, rfl⟩
  · by_cases c : k = na
    · subst c; rw [upA_s] at k2 k3; exact absurd ⟨k2, k3⟩ hx
    · rw [key k (by omega)] at k2 k3 ⊢
      exact (I.2.2.2.2.1 k (by omega) k2 k3).2
theorem MJ.put {X : Nat} (I : MJ E H m ty fr nf na ak (fun i => if i = 0 then some X else none)) {j : Nat} (hj : j < na) (h0 : (ak j).2.2.2.2.1 = false) (ht : ty X = 256 + (ak j).2.2.1) : MJ E H m ty fr nf na (upA ak j ((ak j).1, (ak j).2.1, (ak j).2.2.1, (ak j).2.2.2.1, true, X)) (fun _ => none) := by
  refine I.ask na _ (fun _ => none) (fun a d k => if a = 3 then (2, 0, j) else (a, d, k)) (fun a d k q => if_neg (by omega)) (fun k k1 k2 k3 => ?_) (fun k Y q => absurd q (by simp)) (fun k k1 k2 k3 => ?_) (Nat.le_refl _) (fun k k1 => ?_) (fun k k1 k2 k3 => ?_) (by have h1 := bS_up (ak := ak) (x := ((ak j).1, (ak j).2.1, (ak j).2.2.1, (ak j).2.2.2.1, true, X)) hj; have h2 := lS_up (E := E) (ak := ak) (x := ((ak j).1, (ak j).2.1, (ak j).2.2.1, (ak j).2.2.2.1, true, X)) hj; have e1 : ubA ((ak j).1, (ak j).2.1, (ak j).2.2.1, (ak j).2.2.2.1, true, X) = ubA (ak j) := rfl; have e2 : ldA E ((ak j).1, (ak j).2.1, (ak j).2.2.1, (ak j).2.2.2.1, true, X) = ldA E (ak j) := rfl; omega) (I.cp.2.up (fun _ _ => rfl))
  · by_cases c : k = j
    · subst c
      rw [upA_s]
      exact ⟨3, 0, 0, by rw [MJ.at3, if_pos rfl], if_pos rfl⟩
    · rw [upA_n c] at k2 k3 ⊢
      exact ⟨2, 0, k, by rw [MJ.at2, if_pos ⟨k1, k2, k3⟩], if_neg (by omega)⟩
  · by_cases c : k = j
    · subst c; rw [h0] at k3; exact absurd k3 (by simp)
    · rw [upA_n c]; exact .inl ⟨k1, k2, k3, rfl⟩
  · by_cases c : k = j
    · subst c; rw [upA_s]
    · rw [upA_n c]
  · by_cases c : k = j
    · subst c; rw [upA_s]; exact ht
    · rw [upA_n c] at k2 k3 ⊢
      exact (I.2.2.2.2.1 k k1 k2 k3).2
theorem tak_b {j : Nat} (hj : j < na) (h3 : (ak j).1 = 3) {b : Int64} {y : Nat} : bS (upA ak j ((ak j).1, (ak j).2.1, (ak j).2.2.1, b, false, y)) na + lS E ak na ≤ bS ak na + lS E (upA ak j ((ak j).1, (ak j).2.1, (ak j).2.2.1, b, false, y)) na := by
  have h1 := bS_up (ak := ak) (x := ((ak j).1, (ak j).2.1, (ak j).2.2.1, b, false, y)) hj
  have h2 := lS_up (E := E) (ak := ak) (x := ((ak j).1, (ak j).2.1, (ak j).2.2.1, b, false, y)) hj
  have e1 : ubA ((ak j).1, (ak j).2.1, (ak j).2.2.1, b, false, y) = 0 := by
    unfold ubA
    rw [if_neg (show ¬ (ak j).1 = 1 by omega)]
  have e2 : ldA E ((ak j).1, (ak j).2.1, (ak j).2.2.1, b, false, y) = ldA E (ak j) := rfl
  omega
theorem MJ.tak (I : MJ E H m ty fr nf na ak (fun _ => none)) {j : Nat} (hj : j < na) (h3 : (ak j).1 = 3) (h1 : (ak j).2.2.2.2.1 = true) (hr : E.2.2.1 (fr (nf - 1)).1.1 (fr (nf - 1)).1.2.1 = true) (hf : ∀ s, s.2.1 ≠ 0 → ((∃ k, k < (fr (nf - 1)).2.2.1.1 ∧ (fr (nf - 1)).2.2.1.2 k = s) ∨ ∃ k, (fr (nf - 1)).2.1 k = some s) → ob s.2.2.2.1 (E.2.2.2.1 (fr (nf - 1)).1.1 (ak j).2.2.1) = false) (b : Int64) (y : Nat) : MJ E H m ty fr nf na (upA ak j ((ak j).1, (ak j).2.1, (ak j).2.2.1, b, false, y)) (fun i => if i = 0 then some (ak j).2.2.2.2.2 else none) := by
  have hl : LvA fr nf na ak (fun _ => none) 2 0 j = some (ak j).2.2.2.2.2 := by rw [MJ.at2, if_pos ⟨hj, h3, h1⟩]
  have hrs : rsA E fr nf (nf - 1) = true := by
    unfold rsA
    rw [hr, decide_eq_true (by have := I.nf0; omega)]; rfl
  refine I.ask na _ _ (fun a d k => if a = 2 ∧ k = j then (3, 0, 0) else (a, d, k)) (fun a d k q => if_neg (by omega)) (fun k k1 k2 k3 => ?_) (fun k Y q => ?_) (fun k k1 k2 k3 => ?_) (Nat.le_refl _) (fun k k1 => ?_) (fun k k1 k2 k3 => ?_) (tak_b hj h3) (I.cp.2.up (fun q _ => by have q' : (ak j).1 = 1 := q; omega))
  · by_cases c : k = j
    · subst c; rw [upA_s] at k3; exact absurd k3 (by simp)
    · rw [upA_n c] at k2 k3 ⊢
      exact ⟨2, 0, k, by rw [MJ.at2, if_pos ⟨k1, k2, k3⟩], if_neg (fun q => c q.2)⟩
  · by_cases c : k = 0
    · simp only [if_pos c, Option.some.injEq] at q
      exact ⟨2, 0, j, by rw [hl, q], by rw [if_pos ⟨rfl, rfl⟩, c]⟩
    · simp only [if_neg c] at q; exact absurd q (by simp)
  · by_cases c : k = j
    · subst c
      right
      intro e s hs hsub
      obtain ⟨e1, _, e2, _⟩ := I.1.lemB hrs hl e s (by have := hs.1; omega) hs hsub
      subst e1
      obtain ⟨_, s2, s3⟩ := hs
      have : ob s.2.2.2.1 (E.2.2.2.1 (fr (nf - 1)).1.1 (ak k).2.2.1) = false := hf s s2 (by
        rcases s3 with s3 | s3 | ⟨i, s3⟩
        · exact .inl s3
        · exact .inr s3
        · rw [I.g0 i] at s3; exact absurd s3 (by simp))
      unfold rbA at e2
      rw [this] at e2
      exact absurd e2 (by simp)
    · rw [upA_n c]; exact .inl ⟨k1, k2, k3, rfl⟩
  · by_cases c : k = j
    · subst c; rw [upA_s]
    · rw [upA_n c]
  · by_cases c : k = j
    · subst c; rw [upA_s] at k3; exact absurd k3 (by simp)
    · rw [upA_n c] at k2 k3 ⊢
      exact (I.2.2.2.2.1 k k1 k2 k3).2
theorem MJ.rLoc (I : MJ E H m ty fr nf na ak hd) {k : Nat} {s q : Sl} (hk : (fr (nf - 1)).2.1 k = some s) (h0 : s.2.1 = 0) (h1 : q.1 = s.1) (hb : ob q.2.2.2.1 k = true) : rOk E H fr nf na ak hd q := by
  have k40 := (I.sl.2 k s hk).1
  refine ⟨k, hb, .inl ⟨k40, s.1, by rw [I.at1, hk, Option.bind_some, pln0 h0], by rw [h1]; exact Sub.refl H s.1, fun _ => h1⟩⟩
theorem MJ.rRes (I : MJ E H m ty fr nf na ak hd) {j : Nat} {q : Sl} (hj : j < na) (h3 : (ak j).1 = 3) (ht : (ak j).2.2.2.2.1 = true) (hr : E.2.2.1 (fr (nf - 1)).1.1 (fr (nf - 1)).1.2.1 = true) (h48 : 48 ≤ E.2.2.2.1 (fr (nf - 1)).1.1 (ak j).2.2.1) (h1 : q.1 = (ak j).2.2.2.2.2) (hb : ob q.2.2.2.1 (E.2.2.2.1 (fr (nf - 1)).1.1 (ak j).2.2.1) = true) : rOk E H fr nf na ak hd q := by
  refine ⟨_, hb, .inr (.inr ⟨h48, ?_, j, _, by rw [MJ.at2, if_pos ⟨hj, h3, ht⟩], rfl, by rw [h1]; exact Sub.refl H _, fun _ => h1⟩)⟩
  unfold rsA
  rw [hr, decide_eq_true (by have := I.nf0; omega)]; rfl
theorem MJ.rPart (I : MJ E H m ty fr nf na ak hd) {s q : Sl} (hs : RfA fr nf (nf - 1) s) (h1 : q.1 ∈ kds H s.1) (h9 : q.2.1 = 9 → s.2.1 = 9) (hO : q.2.2.2.1 = s.2.2.2.1) (hI : q.2.2.2.2 = true) : rOk E H fr nf na ak hd q := (I.1.2.2.2.1 _ s hs).mono (Sub.one h1) h9 (fun b h => by rw [hO]; exact h) (fun h => by rw [hI] at h; exact absurd h (by decide))
theorem MJ.rSame (I : MJ E H m ty fr nf na ak hd) {s q : Sl} (hs : RfA fr nf (nf - 1) s) (h1 : q.1 = s.1) (h9 : q.2.1 = 9 → s.2.1 = 9) (hO : q.2.2.2.1 = s.2.2.2.1) (hI : q.2.2.2.2 = s.2.2.2.2) : rOk E H fr nf na ak hd q := (I.1.2.2.2.1 _ s hs).mono (by rw [h1]; exact Sub.refl H s.1) h9 (fun b h => by rw [hO]; exact h) (fun h => ⟨by rw [← hI]; exact h, h1⟩)
theorem sN_list (f : Nat → Nat) (m : Nat) (p : Nat → Bool) : ∀ n, smL f (((List.range n).filter p).map (fun i => m + i)) = sN (fun i => if p i = true then f (m + i) else 0) n
  | 0 => rfl
  | n + 1 => by
    rw [List.range_succ, List.filter_append, List.map_append, smL_app, sN_list f m p n]
    show _ = sN (fun i => if p i = true then f (m + i) else 0) n + (if p n = true then f (m + n) else 0)
    by_cases c : p n = true
    · rw [List.filter_cons_of_pos c, if_pos c]; rfl
    · rw [List.filter_cons_of_neg c, if_neg c]; rfl
/-- a resource's tree is laid, and its place asked for -/
theorem MJ.freshR (I : MJ E H m ty fr nf na ak (fun _ => none)) (hE : EvOk E) {H' : Hp} {m' : Nat} {ty' : Nat → Nat} (hlt : m < m') (hold : ∀ v, v < m → H' v = H v ∧ ty' v = ty v) (hdead : ∀ v, m' ≤ v → H' v = (0, 0, 0, [])) (hb : ∀ i, m ≤ i → i < m' → (H' i).1 ≠ 0 ∧ LTm E (ty' i) (H' i) ((kds H' i).map ty') ∧ (kds H' i).Nodup ∧ E.2.1 (ty' i) ≤ 38 ∧ (∀ c, c ∈ kds H' i → i < c ∧ c < m') ∧ ∀ j, m ≤ j → j < m' → ∀ c, c ∈ kds H' i → c ∈ kds H' j → j = i) (x : Ask) (hx : x.2.2.2.2.2 = m) (ht : ty' m = 256 + x.2.2.1) (hq : sN (fun i => if ty' (m + i) = 11 then am H' (m + i) else 0) (m' - m) + ubA x ≤ ldA E x) (hx3 : x.1 ≠ 1) : MJ E H' m' ty' fr nf (na + 1) (upA ak na x) (fun _ => none) := by
  have J := (I.m0.fresh hE hlt hold hdead hb rfl).newR x hx ht
  refine J.mk (I.cp.upd id [] (((List.range (m' - m)).filter (fun i => decide (ty' (m + i) = 11))).map (fun i => m + i)) (by simp) (fun v hv => absurd hv (by simp)) (fun v h1 h2 h3 => ?_) ?_ (I.cp.2.new (fun q => absurd q hx3)))
  · have hk : ∀ i c, m ≤ i → c ∈ kds H' i → m ≤ c := fun i c hi hc => by
      by_cases q : i < m'
      · have := (hb i hi q).2.2.2.2.1 c hc; omega
      · rw [kds, hdead i (by omega)] at hc; exact absurd hc (by simp)
    rcases fresh_liv I.m0 (fun v hv => (hold v hv).1) hk (fun a d k X q => by
      have a4 := lv4 q
      by_cases c1 : a ≤ 1
      · refine .inr (Liv.root (a := a) (d := d) (k := k) ?_)
        rw [← q]
        by_cases c : a = 0
        · subst c; rfl
        · have : a = 1 := by omega
          subst this; rfl
      · by_cases c2 : a = 2
        · subst c2
          rw [lv2] at q
          by_cases cc : d = 0 ∧ k < na + 1 ∧ (upA ak na x k).1 = 3 ∧ (upA ak na x k).2.2.2.2.1 = true
          · rw [if_pos cc] at q; cases q
            by_cases ck : k = na
            · subst ck; rw [upA_s, hx]; exact .inl (Nat.le_refl _)
            · obtain ⟨e1, e2, e3, e4⟩ := cc
              rw [upA_n ck] at e3 e4 ⊢
              exact .inr (Liv.root (a := 2) (d := 0) (k := k) (by rw [lv2, if_pos ⟨rfl, by omega, e3, e4⟩]))
          · rw [if_neg cc] at q; exact absurd q (by simp)
        · have : a = 3 := by omega
          subst this
          rw [lv3] at q
          split at q <;> exact absurd q (by simp)) h2 with q | ⟨q, q2⟩
    · have vm := J.lt (J.live h2)
      refine absurd (List.mem_map.mpr ⟨v - m, List.mem_filter.mpr ⟨List.mem_range.mpr (by omega), ?_⟩, by omega⟩) h3
      rw [show m + (v - m) = v by omega]; simpa using h1
    · rw [(hold v q).2] at h1
      exact ⟨h1, q2, by unfold am; rw [id, (hold v q).1]; exact Nat.le_refl _, by simp, fun w _ _ _ e => e⟩
  · rw [sN_list, bS_new, lS_new]
    simp only [decide_eq_true_eq, smL]
    omega
theorem lv_drp {n a d k X : Nat} (q : LvA (setF fr (nf - 1) (setH (fr (nf - 1)) ((fr (nf - 1)).2.2.1.1 - n))) nf na ak hd a d k = some X) : LvA fr nf na ak hd a d k = some X ∧ (a = 0 → d = nf - 1 → k < (fr (nf - 1)).2.2.1.1 - n) := by
  by_cases c : a ≤ 1 ∧ d = nf - 1
  · obtain ⟨c1, c2⟩ := c
    subst c2
    by_cases c3 : a = 0
    · subst c3
      rw [lv0, setF_s] at q
      rw [lv0]
      by_cases c4 : nf - 1 < nf ∧ k < (setH (fr (nf - 1)) ((fr (nf - 1)).2.2.1.1 - n)).2.2.1.1
      · rw [if_pos c4] at q
        have c5 : k < (fr (nf - 1)).2.2.1.1 - n := c4.2
        exact ⟨by rw [if_pos ⟨c4.1, by omega⟩]; exact q, fun _ _ => c5⟩
      · rw [if_neg c4] at q; exact absurd q (by simp)
    · have : a = 1 := by omega
      subst this
      rw [lv1, setF_s] at q
      rw [lv1]
      exact ⟨q, fun e => absurd e (by decide)⟩
  · by_cases c3 : a = 3
    · subst c3; rw [lv3] at q ⊢; exact ⟨q, fun e => absurd e (by decide)⟩
    · rw [lvo (hd := hd) c3 c] at q
      exact ⟨q, fun e1 e2 => absurd ⟨by omega, e2⟩ c⟩
/-- what lies below a slot that goes is not live behind it -/
theorem MJ0.gone (I : MJ0 E H m ty fr nf na ak hd) {c j a : Nat} (hj : (fr (nf - 1)).2.2.1.1 - c ≤ j) (hj2 : j < (fr (nf - 1)).2.2.1.1) (h0 : ((fr (nf - 1)).2.2.1.2 j).2.1 = 0) (hs : Sub H ((fr (nf - 1)).2.2.1.2 j).1 a) : Liv H (LvA fr nf na ak hd) a ∧ ¬ Liv H (LvA (setF fr (nf - 1) (setH (fr (nf - 1)) ((fr (nf - 1)).2.2.1.1 - c))) nf na ak hd) a := by
  have hnf := I.2.2.2.2.2.2
  have hl : LvA fr nf na ak hd 0 (nf - 1) j = some ((fr (nf - 1)).2.2.1.2 j).1 := by rw [lv0, if_pos ⟨by omega, hj2⟩, pln0 h0]
  refine ⟨⟨_, _, _, _, hl, hs⟩, fun ⟨a', d', k', Y, hY, hs'⟩ => ?_⟩
  obtain ⟨y1, y2⟩ := lv_drp hY
  have e := Sub.roots I.1.1 (I.1.2.1 _ _ _ _ hl) (I.1.2.1 _ _ _ _ y1) hs hs'
  rw [← e] at y1
  obtain ⟨e1, e2, e3⟩ := I.1.2.2.1 _ _ _ _ _ _ _ hl y1
  have := y2 e1.symm e2.symm
  omega
/-- c slots go, new nodes come; coins A were there, coins B are new -/
theorem MJ.newC (I : MJ E H m ty fr nf na ak (fun _ => none)) {c : Nat} {H' : Hp} {m' : Nat} {ty' : Nat → Nat} {fr' : Nat → Fm} {ak' : Nat → Ask} (J : MJ0 E H' m' ty' fr' nf na ak' (fun _ => none)) (hold : ∀ v, v < m → H' v = H v ∧ ty' v = ty v) (hk : ∀ i c, m ≤ i → c ∈ kds H' i → m ≤ c) (hr : ∀ a d k X, LvA fr' nf na ak' (fun _ => none) a d k = some X → m ≤ X ∨ LvA (setF fr (nf - 1) (setH (fr (nf - 1)) ((fr (nf - 1)).2.2.1.1 - c))) nf na ak (fun _ => none) a d k = some X) (A B : List Nat) (hA : A.Nodup) (hA2 : ∀ v, v ∈ A → ty v = 11 ∧ Liv H (LvA fr nf na ak (fun _ => none)) v ∧ ¬ Liv H (LvA (setF fr (nf - 1) (setH (fr (nf - 1)) ((fr (nf - 1)).2.2.1.1 - c))) nf na ak (fun _ => none)) v) (hB : ∀ v, m ≤ v → v < m' → ty' v = 11 → v ∈ B) (hb : smL (am H') B + bS ak' na + lS E ak na ≤ smL (am H) A + bS ak na + lS E ak' na) (hac : AcOk E na ak') : MJ E H' m' ty' fr' nf na ak' (fun _ => none) := by
  refine J.mk (I.cp.upd id A B hA (fun v hv => ⟨(hA2 v hv).1, (hA2 v hv).2.1⟩) (fun v h1 h2 h3 => ?_) hb hac)
  rcases fresh_liv (I.drp c).m0 (fun v hv => (hold v hv).1) hk (fun a d k X q => (hr a d k X q).imp id Liv.root) h2 with q | ⟨q, q2⟩
  · exact absurd (hB v q (J.lt (J.live h2)) h1) h3
  · rw [(hold v q).2] at h1
    refine ⟨h1, ?_, by unfold am; rw [id, (hold v q).1]; exact Nat.le_refl _, fun hv => (hA2 v hv).2.2 q2, fun w _ _ _ e => e⟩
    obtain ⟨a, d, k, X, hX, hs⟩ := q2
    exact ⟨a, d, k, X, (lv_drp hX).1, hs⟩
/-- a coin's amount -/
theorem MJ0.amt (I : MJ0 E H m ty fr nf na ak hd) {v c : Nat} (hv : (H v).1 ≠ 0) (t : ty v = 256) (hk : kds H v = [c]) : ty c = 11 := by
  have := (I.2.1.2 v hv).2.1
  rw [hk] at this
  rcases this with h | h | h | h | h | h | h | h
  · omega
  · omega
  · omega
  · omega
  · omega
  · simpa using h.2.2.2.2
  · omega
  · omega
/-- a new root on the stack -/
theorem lv_psh {c : Nat} {s : Sl} {ak' : Nat → Ask} (hr : ∀ k, k < na → (ak' k).1 = 3 → (ak' k).2.2.2.2.1 = true → ak' k = ak k) {a d k X : Nat} (q : LvA (setF fr (nf - 1) (pshV (setH (fr (nf - 1)) ((fr (nf - 1)).2.2.1.1 - c)) s)) nf na ak' (fun _ => none) a d k = some X) : s.1 ≤ X ∨ LvA (setF fr (nf - 1) (setH (fr (nf - 1)) ((fr (nf - 1)).2.2.1.1 - c))) nf na ak (fun _ => none) a d k = some X := by
  have a4 := lv4 q
  by_cases c1 : a ≤ 1 ∧ d = nf - 1
  · obtain ⟨c1, c2⟩ := c1
    subst c2
    by_cases c3 : a = 0
    · subst c3
      rw [lv0, setF_s] at q
      rw [lv0, setF_s]
      by_cases c4 : nf - 1 < nf ∧ k < (pshV (setH (fr (nf - 1)) ((fr (nf - 1)).2.2.1.1 - c)) s).2.2.1.1
      · rw [if_pos c4] at q
        have c5 : k < (fr (nf - 1)).2.2.1.1 - c + 1 := c4.2
        have q' : pln (if k < (fr (nf - 1)).2.2.1.1 - c then (fr (nf - 1)).2.2.1.2 k else s) = some X := q
        by_cases c6 : k < (fr (nf - 1)).2.2.1.1 - c
        · rw [if_pos c6] at q'
          right; rw [if_pos ⟨c4.1, c6⟩]; exact q'
        · rw [if_neg c6] at q'
          left; rw [(pln_e q').2]; exact Nat.le_refl _
      · rw [if_neg c4] at q; exact absurd q (by simp)
    · have : a = 1 := by omega
      subst this
      right; rw [← q, lv1, lv1, setF_s, setF_s]; rfl
  · right
    rw [← q]
    by_cases c2 : a = 2
    · subst c2
      rw [lv2] at q
      rw [lv2, lv2]
      by_cases cc : d = 0 ∧ k < na ∧ (ak' k).1 = 3 ∧ (ak' k).2.2.2.2.1 = true
      · have e := hr k cc.2.1 cc.2.2.1 cc.2.2.2
        rw [e]
      · rw [if_neg cc] at q; exact absurd q (by simp)
    · by_cases c3 : a = 3
      · subst c3; rw [lv3, lv3]
      · have : a ≤ 1 := by omega
        have cd : d ≠ nf - 1 := fun e => c1 ⟨this, e⟩
        by_cases c5 : a = 0
        · subst c5; rw [lv0, lv0, setF_n cd, setF_n cd]
        · have : a = 1 := by omega
          subst this; rw [lv1, lv1, setF_n cd, setF_n cd]
theorem lv_psh2 {c : Nat} {s s' : Sl} {b : Nat} (hs : b ≤ s.1) (hs' : b ≤ s'.1) {a d k X : Nat} (q : LvA (setF fr (nf - 1) (pshV (setH (pshV (setH (fr (nf - 1)) ((fr (nf - 1)).2.2.1.1 - c)) s) ((pshV (setH (fr (nf - 1)) ((fr (nf - 1)).2.2.1.1 - c)) s).2.2.1.1 - 0)) s')) nf na ak (fun _ => none) a d k = some X) : b ≤ X ∨ LvA (setF fr (nf - 1) (setH (fr (nf - 1)) ((fr (nf - 1)).2.2.1.1 - c))) nf na ak (fun _ => none) a d k = some X := by
  have h1 := lv_psh (fr := setF fr (nf - 1) (pshV (setH (fr (nf - 1)) ((fr (nf - 1)).2.2.1.1 - c)) s)) (nf := nf) (na := na) (ak := ak) (ak' := ak) (c := 0) (s := s') (fun _ _ _ _ => rfl) (a := a) (d := d) (k := k) (X := X) (by rw [setF_s, setF_2]; exact q)
  rcases h1 with h1 | h1
  · exact .inl (by omega)
  · have e : setH (setF fr (nf - 1) (pshV (setH (fr (nf - 1)) ((fr (nf - 1)).2.2.1.1 - c)) s) (nf - 1)) ((setF fr (nf - 1) (pshV (setH (fr (nf - 1)) ((fr (nf - 1)).2.2.1.1 - c)) s) (nf - 1)).2.2.1.1 - 0) = setF fr (nf - 1) (pshV (setH (fr (nf - 1)) ((fr (nf - 1)).2.2.1.1 - c)) s) (nf - 1) := rfl
    rw [e, setF_id] at h1
    rcases lv_psh (fun _ _ _ _ => rfl) h1 with h2 | h2
    · exact .inl (by omega)
    · exact .inr h2
end
