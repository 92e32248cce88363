/-! THE MACHINE'S STATE: operations as a whole -/
theorem setF_2 (fr : Nat → Fm) (d : Nat) (x y : Fm) : setF (setF fr d x) d y = setF fr d y := by
  funext e
  by_cases c : e = d
  · subst c; rw [setF_s, setF_s]
  · rw [setF_n c, setF_n c, setF_n c]
abbrev pshV (x : Fm) (s : Sl) : Fm := setN x 1 (fun _ => s)
theorem hd_none {f : Nat → Option Nat} (h : ∀ i, f i = none) : f = fun _ => none := funext h
section
variable {E : Ev} {H : Hp} {m : Nat} {ty : Nat → Nat} {fr : Nat → Fm} {nf na : Nat} {ak : Nat → Ask} {hd : Nat → Option Nat}
/-- what lies in hand 0 comes onto the stack -/
theorem MJ0.psh {X : Nat} (I : MJ0 E H m ty fr nf na ak (fun i => if i = 0 then some X else none)) {s : Sl} (h1 : s.1 = X) (h2 : s.2.1 = 0) (h3 : ty s.1 = s.2.2.1) : MJ0 E H m ty (setF fr (nf - 1) (pshV (fr (nf - 1)) s)) nf na ak (fun _ => none) := by
  have J := I.pushN 1 (fun _ => s) (fun i hi => ⟨by rw [show i = 0 by omega]; simp [h1], h2, h3⟩)
  have e : (fun i => if i < 1 then none else if i = 0 then some X else none) = (fun _ => (none : Option Nat)) := by
    funext i
    by_cases c : i < 1
    · rw [if_pos c]
    · rw [if_neg c, if_neg (by omega)]
  rw [e] at J
  exact J
theorem MJ0.drp (I : MJ0 E H m ty fr nf na ak (fun _ => none)) (n : Nat) : MJ0 E H m ty (setF fr (nf - 1) (setH (fr (nf - 1)) ((fr (nf - 1)).2.2.1.1 - n))) nf na ak (fun _ => none) := I.dropN n (fun _ _ q => q)
/-- n slots go, a number comes -/
theorem MJ0.num (I : MJ0 E H m ty fr nf na ak (fun _ => none)) (hE : EvOk E) (n : Nat) {k t : Nat} {x y : Int64} (ht : LTm E t (k, x, y, []) []) (h38 : E.2.1 t ≤ 38) : MJ0 E (upH H m (k, x, y, [])) (m + 1) (fun i => if i = m then t else ty i) (setF fr (nf - 1) (pshV (setH (fr (nf - 1)) ((fr (nf - 1)).2.2.1.1 - n)) (m, 0, t, 0, false))) nf na ak (fun _ => none) := by
  have J := (I.drp n).fresh hE (H' := upH H m (k, x, y, [])) (m' := m + 1) (ty' := fun i => if i = m then t else ty i) (by omega) (fun v hv => ⟨upH_n (by omega), if_neg (by omega)⟩) (fun v hv => by rw [upH_n (by omega)]; exact I.dead (by omega)) (fun i i1 i2 => by
    have e : i = m := by omega
    subst e
    have ek : kds (upH H i (k, x, y, [])) i = [] := by unfold kds; rw [upH_s]
    rw [ek, upH_s]
    simp only [if_true]
    exact ⟨ht.kd.1, ht, by simp, h38, fun c hc => absurd hc (by simp), fun j _ _ c hc => absurd hc (by simp)⟩) rfl
  have := J.psh (s := (m, 0, t, 0, false)) rfl rfl (by simp)
  rw [setF_s, setF_2] at this
  exact this
/-- n slots go, a copy comes -/
theorem MJ0.cpy (I : MJ0 E H m ty fr nf na ak (fun _ => none)) (hE : EvOk E) (n : Nat) {d v : Nat} {H' : Hp} {u' : Nat} {o : Nat → Nat} (c : CpM H m d v H' u' o) (hsz : 1 ≤ szM H d v) : MJ0 E H' u' (fun j => if j < m then ty j else ty (o j)) (setF fr (nf - 1) (pshV (setH (fr (nf - 1)) ((fr (nf - 1)).2.2.1.1 - n)) (m, 0, ty v, 0, false))) nf na ak (fun _ => none) := by
  have tyd := c.typed I.2.1
  obtain ⟨c1, c2, c3, c4, _, _⟩ := c
  have J := (I.drp n).fresh hE (H' := H') (m' := u') (ty' := fun j => if j < m then ty j else ty (o j)) (by omega) (fun w hw => ⟨c2 w hw, if_pos hw⟩) c3 (fun i i1 i2 => by
    simp only [if_neg (show ¬ i < m by omega)]
    exact tyd i i1 i2) rfl
  have := J.psh (s := (m, 0, ty v, 0, false)) rfl rfl (by simp [c4])
  rw [setF_s, setF_2] at this
  exact this
theorem rOk.drp (I : MJ0 E H m ty fr nf na ak (fun _ => none)) (n : Nat) {s : Sl} (h : rOk E H fr nf na ak (fun _ => none) s) : rOk E H (setF fr (nf - 1) (setH (fr (nf - 1)) ((fr (nf - 1)).2.2.1.1 - n))) nf na ak (fun _ => none) s := by
  unfold rOk at h ⊢
  rw [setF_gh (fr := fr) (d := nf - 1) (x := setH (fr (nf - 1)) ((fr (nf - 1)).2.2.1.1 - n)) (fun _ => rfl), setF_rs (fr := fr) (d := nf - 1) (x := setH (fr (nf - 1)) ((fr (nf - 1)).2.2.1.1 - n)) rfl rfl, setF_rb (fr := fr) (d := nf - 1) (x := setH (fr (nf - 1)) ((fr (nf - 1)).2.2.1.1 - n)) rfl]
  refine h.lv (fun a e k X h0 h1 h2 h3 => ?_)
  have a4 := lv4 h1
  by_cases c : a = 1
  · subst c
    rw [lv1] at h1 ⊢
    by_cases ce : e = nf - 1
    · subst ce; rw [setF_s]; exact h1
    · rw [setF_n ce]; exact h1
  · by_cases c2 : a = 2
    · subst c2; exact h1
    · have : a = 3 := by omega
      subst this; exact h1
/-- n slots go, a reference comes -/
theorem MJ0.pr (I : MJ0 E H m ty fr nf na ak (fun _ => none)) (n : Nat) {s : Sl} (h : rOk E H fr nf na ak (fun _ => none) s) (ht : SlT H ty s) (h9 : s.2.1 ≠ 0) : MJ0 E H m ty (setF fr (nf - 1) (setS (setH (fr (nf - 1)) ((fr (nf - 1)).2.2.1.1 - n)) ((fr (nf - 1)).2.2.1.1 - n) s)) nf na ak (fun _ => none) := by
  have J := (I.drp n).pushR (rOk.drp I n h) ht h9
  rw [setF_s, setF_2] at J
  exact J
/-- 12: a local's value, or reference, comes onto the stack -/
theorem MJ0.mov (I : MJ0 E H m ty fr nf na ak (fun _ => none)) {k : Nat} {s : Sl} (hk : (fr (nf - 1)).2.1 k = some s) (hf : s.2.1 = 0 → ∀ q, RfA fr nf (nf - 1) q → ob q.2.2.2.1 k = false) : MJ0 E H m ty (setF fr (nf - 1) (pshV (setLo (fr (nf - 1)) k none) s)) nf na ak (fun _ => none) := by
  by_cases c : s.2.1 = 0
  · have J := I.locOut hk c (hf c)
    have := J.psh (s := s) rfl c (I.sl.2 k s hk).2.2.1
    rw [setF_s, setF_2] at this
    exact this
  · have hr : RfA fr nf (nf - 1) s := ⟨by have := I.nf0; omega, c, .inr (.inl ⟨k, hk⟩)⟩
    have J := I.locR (k := k) (s := none) (fun q hq => by rw [hk] at hq; cases hq; exact c) (fun q hq => absurd hq (by simp))
    have h := I.1.2.2.2.1 _ s hr
    have h' : rOk E H (setF fr (nf - 1) (setLo (fr (nf - 1)) k none)) nf na ak (fun _ => none) s := by
      unfold rOk
      rw [setF_gh (fr := fr) (d := nf - 1) (x := setLo (fr (nf - 1)) k none) (fun _ => rfl), setF_rs (fr := fr) (d := nf - 1) (x := setLo (fr (nf - 1)) k none) rfl rfl, setF_rb (fr := fr) (d := nf - 1) (x := setLo (fr (nf - 1)) k none) rfl]
      refine h.lv (fun a e j X h0 h1 h2 h3 => ?_)
      have a4 := lv4 h1
      by_cases c1 : a = 1
      · subst c1
        rw [lv1] at h1 ⊢
        by_cases ce : e = nf - 1
        · subst ce
          rw [setF_s]
          simp only [setLo]
          by_cases cj : j = k
          · subst cj
            rw [if_pos (by have := I.nf0; omega), hk, Option.bind_some, pln, if_neg c] at h1
            exact absurd h1 (by simp)
          · rw [if_neg cj]; exact h1
        · rw [setF_n ce]; exact h1
      · by_cases c2 : a = 2
        · subst c2; exact h1
        · have : a = 3 := by omega
          subst this; exact h1
    have K := J.pushR h' (I.sl.2 k s hk).2 c
    rw [setF_s, setF_2] at K
    -- setS and setN are one below the height
    have W := K.weak (pshV (setLo (fr (nf - 1)) k none) s) (by rw [setF_s]; rfl) (by rw [setF_s]; rfl) (fun j => I.g0 j) (by rw [setF_s]; rfl) (fun j hj => by
      rw [setF_s]
      simp only [pshV, setN, setLo] at hj
      show wk (if j = (fr (nf - 1)).2.2.1.1 then s else (fr (nf - 1)).2.2.1.2 j) (if j < (fr (nf - 1)).2.2.1.1 then (fr (nf - 1)).2.2.1.2 j else s)
      by_cases cj : j = (fr (nf - 1)).2.2.1.1
      · rw [if_pos cj, if_neg (by omega)]; exact ⟨rfl, rfl, rfl, fun _ h => h, fun h => h⟩
      · rw [if_neg cj, if_pos (by omega)]; exact ⟨rfl, rfl, rfl, fun _ h => h, fun h => h⟩) (fun j => by
      rw [setF_s]
      simp only [pshV, setN, setLo, setS]
      by_cases cj : j = k
      · rw [if_pos cj]; exact .inl ⟨rfl, fun q hq => absurd hq (by simp)⟩
      · rw [if_neg cj]
        cases hl : (fr (nf - 1)).2.1 j with
        | none => exact .inl ⟨rfl, fun q hq => absurd hq (by simp)⟩
        | some q => exact .inr ⟨q, q, rfl, rfl, rfl, rfl, rfl, fun _ h => h, fun h => h⟩)
    rw [setF_2] at W
    exact W
/-- 13: the topmost slot comes into a local -/
theorem MJ0.sto (I : MJ0 E H m ty fr nf na ak (fun _ => none)) {k : Nat} (h0 : 0 < (fr (nf - 1)).2.2.1.1) (h40 : k < 40) (hp : ∀ q, (fr (nf - 1)).2.1 k = some q → (q.2.1 = 0 ↔ ((fr (nf - 1)).2.2.1.2 ((fr (nf - 1)).2.2.1.1 - 1)).2.1 = 0)) (hf : ((fr (nf - 1)).2.2.1.2 ((fr (nf - 1)).2.2.1.1 - 1)).2.1 = 0 → ∀ s, s.2.1 ≠ 0 → ((∃ j, j < (fr (nf - 1)).2.2.1.1 - 1 ∧ (fr (nf - 1)).2.2.1.2 j = s) ∨ ∃ j, (fr (nf - 1)).2.1 j = some s) → ob s.2.2.2.1 k = false) : MJ0 E H m ty (setF fr (nf - 1) (setLo (setH (fr (nf - 1)) ((fr (nf - 1)).2.2.1.1 - 1)) k (some ((fr (nf - 1)).2.2.1.2 ((fr (nf - 1)).2.2.1.1 - 1))))) nf na ak (fun _ => none) := by
  have st := I.sl.1 ((fr (nf - 1)).2.2.1.1 - 1) (by omega)
  by_cases c : ((fr (nf - 1)).2.2.1.2 ((fr (nf - 1)).2.2.1.1 - 1)).2.1 = 0
  · have J := I.popN (n := 1) (by omega) (fun i hi => by rw [show (fr (nf - 1)).2.2.1.1 - 1 + i = (fr (nf - 1)).2.2.1.1 - 1 by omega]; exact c)
    have e : (fun i => if i < 1 then some ((fr (nf - 1)).2.2.1.2 ((fr (nf - 1)).2.2.1.1 - 1 + i)).1 else none) = (fun i => if i = 0 then some ((fr (nf - 1)).2.2.1.2 ((fr (nf - 1)).2.2.1.1 - 1)).1 else none) := by
      funext i
      by_cases q : i = 0
      · subst q; simp
      · rw [if_neg (by omega), if_neg q]
    rw [e] at J
    have K := J.locIn (k := k) (s := (fr (nf - 1)).2.2.1.2 ((fr (nf - 1)).2.2.1.1 - 1)) rfl c st.2.1 h40 (fun q ⟨_, q2, q3⟩ => by
      rw [setF_s] at q3
      refine hf c q q2 ?_
      rcases q3 with q3 | q3 | ⟨j, q3⟩
      · exact .inl q3
      · exact .inr q3
      · rw [show (setH (fr (nf - 1)) ((fr (nf - 1)).2.2.1.1 - 1)).2.2.2 j = (fr (nf - 1)).2.2.2 j from rfl, I.g0 j] at q3; exact absurd q3 (by simp)) (fun q hq => by rw [setF_s] at hq; exact (hp q hq).mpr c)
    rw [setF_s, setF_2] at K
    exact K
  · have hr : RfA fr nf (nf - 1) ((fr (nf - 1)).2.2.1.2 ((fr (nf - 1)).2.2.1.1 - 1)) := ⟨by have := I.nf0; omega, c, .inl ⟨_, by omega, rfl⟩⟩
    have K := (I.drp 1).locR (k := k) (s := some ((fr (nf - 1)).2.2.1.2 ((fr (nf - 1)).2.2.1.1 - 1))) (fun q hq => by
      rw [setF_s] at hq
      exact fun q0 => c ((hp q hq).mp q0)) (fun q hq => by
      cases hq
      exact ⟨h40, c, st, rOk.drp I 1 (I.1.2.2.2.1 _ _ hr)⟩)
    rw [setF_s, setF_2] at K
    exact K
/-- 21, 52: n values become the parts of one -/
theorem MJ0.pk (I : MJ0 E H m ty fr nf na ak (fun _ => none)) (hE : EvOk E) {n : Nat} (hn : n ≤ (fr (nf - 1)).2.2.1.1) (hp : ∀ i, i < n → ((fr (nf - 1)).2.2.1.2 ((fr (nf - 1)).2.2.1.1 - n + i)).2.1 = 0) {k t : Nat} {lo : Int64} (ht : LTm E t (k, 0, lo, (List.range n).map (fun i => ((fr (nf - 1)).2.2.1.2 ((fr (nf - 1)).2.2.1.1 - n + i)).1)) (((List.range n).map (fun i => ((fr (nf - 1)).2.2.1.2 ((fr (nf - 1)).2.2.1.1 - n + i)).1)).map ty)) (h38 : E.2.1 t ≤ 38) : MJ0 E (upH H m (k, 0, lo, (List.range n).map (fun i => ((fr (nf - 1)).2.2.1.2 ((fr (nf - 1)).2.2.1.1 - n + i)).1))) (m + 1) (fun i => if i = m then t else ty i) (setF fr (nf - 1) (pshV (setH (fr (nf - 1)) ((fr (nf - 1)).2.2.1.1 - n)) (m, 0, t, 0, false))) nf na ak (fun _ => none) := by
  have J := I.popN hn hp
  have K := J.pack hE (cs := (List.range n).map (fun i => ((fr (nf - 1)).2.2.1.2 ((fr (nf - 1)).2.2.1.1 - n + i)).1)) (fun c hc => by
    obtain ⟨i, i1, i2⟩ := List.mem_map.mp hc
    exact ⟨i, by rw [if_pos (List.mem_range.mp i1), i2]⟩) (by
    unfold List.Nodup
    rw [List.pairwise_map, List.pairwise_iff_getElem]
    intro i j hi hj hij e
    simp only [List.getElem_range] at e
    rw [List.length_range] at hi hj
    have a1 : LvA (setF fr (nf - 1) (setH (fr (nf - 1)) ((fr (nf - 1)).2.2.1.1 - n))) nf na ak (fun i => if i < n then some ((fr (nf - 1)).2.2.1.2 ((fr (nf - 1)).2.2.1.1 - n + i)).1 else none) 3 0 i = some ((fr (nf - 1)).2.2.1.2 ((fr (nf - 1)).2.2.1.1 - n + i)).1 := by rw [lv3, if_pos rfl, if_pos hi]
    have a2 : LvA (setF fr (nf - 1) (setH (fr (nf - 1)) ((fr (nf - 1)).2.2.1.1 - n))) nf na ak (fun i => if i < n then some ((fr (nf - 1)).2.2.1.2 ((fr (nf - 1)).2.2.1.1 - n + i)).1 else none) 3 0 j = some ((fr (nf - 1)).2.2.1.2 ((fr (nf - 1)).2.2.1.1 - n + i)).1 := by rw [lv3, if_pos rfl, if_pos hj, e]
    have := (J.1.2.2.1 _ _ _ _ _ _ _ a1 a2).2.2
    omega) ht.kd.1 ht h38
  have := K.psh (s := (m, 0, t, 0, false)) rfl rfl (by simp)
  rw [setF_s, setF_2] at this
  exact this
end
