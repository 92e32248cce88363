/-! BOTH LEDGERS: a tree is kept on both sides -/
theorem kidN_rev {l : List Nat} {i : Nat} (h : i < l.length) : kidN l.reverse i = l[i] := by
  unfold kidN
  rw [List.length_reverse, drop_c (by rw [List.length_reverse]; omega), hd0_c, List.getElem_reverse]
  congr 1
  omega
/-- entries that end where they must -/
def Wf : Nat → List Ent → Prop
  | 0, _ => False
  | d + 1, E => ∃ e Es, E = e :: List.flatten Es ∧ Es.length = e.2.2.2.1 ∧ ∀ x ∈ Es, Wf d x
theorem Wf.pre : ∀ (d d' : Nat) (x y r s : List Ent), Wf d x → Wf d' y → x ++ r = y ++ s → x = y := by
  intro d
  induction d with
  | zero => intro d' x y r s h; exact absurd h (by simp [Wf])
  | succ d ih =>
    intro d' x y r s h h' e
    cases d' with
    | zero => exact absurd h' (by simp [Wf])
    | succ d' =>
      obtain ⟨a, Es, e1, e2, e3⟩ := h
      obtain ⟨b, Gs, g1, g2, g3⟩ := h'
      subst e1; subst g1
      rw [List.cons_append, List.cons_append, List.cons.injEq] at e
      obtain ⟨ea, e⟩ := e
      subst ea
      have key : ∀ (Es Gs : List (List Ent)), Es.length = Gs.length → (∀ x ∈ Es, Wf d x) → (∀ x ∈ Gs, Wf d' x) → Es.flatten ++ r = Gs.flatten ++ s → Es = Gs := by
        intro Es
        induction Es with
        | nil =>
          intro Gs hl _ _ _
          cases Gs with
          | nil => rfl
          | cons _ _ => exact absurd hl (by simp)
        | cons x Es ih2 =>
          intro Gs hl hx hg he
          cases Gs with
          | nil => exact absurd hl (by simp)
          | cons y Gs =>
            rw [List.flatten_cons, List.flatten_cons, List.append_assoc, List.append_assoc] at he
            have xy := ih d' x y _ _ (hx x (by simp)) (hg y (by simp)) he
            subst xy
            have he' := List.append_cancel_left he
            rw [ih2 Gs (by simpa using hl) (fun z hz => hx z (by simp [hz])) (fun z hz => hg z (by simp [hz])) he']
      rw [key Es Gs (by rw [e2, g2]) e3 g3 e]
theorem Wf.parts {d d' : Nat} {Es Gs : List (List Ent)} (hl : Es.length = Gs.length) (h : ∀ x ∈ Es, Wf d x) (h' : ∀ x ∈ Gs, Wf d' x) (e : Es.flatten = Gs.flatten) : Es = Gs := by
  induction Es generalizing Gs with
  | nil =>
    cases Gs with
    | nil => rfl
    | cons _ _ => exact absurd hl (by simp)
  | cons x Es ih =>
    cases Gs with
    | nil => exact absurd hl (by simp)
    | cons y Gs =>
      rw [List.flatten_cons, List.flatten_cons] at e
      have xy := Wf.pre d d' x y _ _ (h x (by simp)) (h' y (by simp)) e
      subst xy
      rw [ih (by simpa using hl) (fun z hz => h z (by simp [hz])) (fun z hz => h' z (by simp [hz])) (List.append_cancel_left e)]
theorem Enc.wf {H : Hp} : ∀ {d u : Nat} {E : List Ent}, Enc H d u E → Wf d E
  | 0, _, _, h => h
  | d + 1, u, E, h => by
    obtain ⟨e, Es, h1, h2, _, h4⟩ := h
    refine ⟨e, Es, h1, h2, fun x hx => ?_⟩
    obtain ⟨k, hk, ek⟩ := List.getElem_of_mem hx
    have : ((sts (u + 1) Es)[k]'(by rw [sts_len]; exact hk), x) ∈ (sts (u + 1) Es).zip Es := by
      rw [List.mem_iff_getElem]
      refine ⟨k, by rw [List.length_zip, sts_len]; omega, ?_⟩
      rw [List.getElem_zip, ek]
    exact (h4 _ this).wf
theorem TyE.wf {SF : Nat → List Nat} : ∀ {d : Nat} {E : List Ent}, TyE SF d E → Wf d E
  | 0, _, h => h
  | d + 1, E, h => by
    obtain ⟨e, Es, h1, h2, _, _, h5⟩ := h
    exact ⟨e, Es, h1, h2, fun x hx => (h5 x hx).wf⟩
/-- the entries of the reference's tree -/
def entR (H : Hp) (ty : Nat → Nat) : Nat → Nat → List Ent
  | 0, _ => []
  | d + 1, v => if ty v = 256 then [(10, 0, (H ((kds H v).headD 0)).2.2.1, 0, 256)] else ((H v).1, (H v).2.1, (H v).2.2.1, (kds H v).length, ty v) :: ((kds H v).map (entR H ty d)).flatten
theorem entR_c {H : Hp} {ty : Nat → Nat} {d v : Nat} (h : ty v = 256) : entR H ty (d + 1) v = [(10, 0, (H ((kds H v).headD 0)).2.2.1, 0, 256)] := if_pos h
theorem entR_n {H : Hp} {ty : Nat → Nat} {d v : Nat} (h : ty v ≠ 256) : entR H ty (d + 1) v = ((H v).1, (H v).2.1, (H v).2.2.1, (kds H v).length, ty v) :: ((kds H v).map (entR H ty d)).flatten := if_neg h
theorem entR_len {H : Hp} {ty : Nat → Nat} : ∀ (d d' v : Nat), d ≤ d' → (entR H ty d v).length ≤ szM H d' v := by
  intro d
  induction d with
  | zero => intro d' v _; exact Nat.zero_le _
  | succ d ih =>
    intro d' v h
    obtain ⟨d', rfl⟩ : ∃ e, d' = e + 1 := ⟨d' - 1, by omega⟩
    unfold szM
    by_cases c : ty v = 256
    · rw [entR_c c]; simp
    · rw [entR_n c, List.length_cons, List.length_flatten, List.map_map]
      have : ∀ l : List Nat, (l.map (List.length ∘ entR H ty d)).sum ≤ (l.map (szM H d')).sum := fun l => by
        induction l with
        | nil => simp
        | cons a l ih2 =>
          rw [List.map_cons, List.map_cons, List.sum_cons, List.sum_cons]
          have := ih d' a (by omega)
          have e : (List.length ∘ entR H ty d) a = (entR H ty d a).length := rfl
          omega
      have := this (kds H v)
      omega
section
variable {E : Ev} {H : Hp} {m : Nat} {ty phi : Nat → Nat} {Rn : Nat → Option Nat} {Hc : Hp}
/-- parts of a node -/
theorem HT.kid (hE : EvOk E) (hA : EvA E) (ht : HT E H m ty) (hN : NoA ty H) {v : Nat} (hv : (H v).1 ≠ 0) (h : ty v ≠ 256) {c : Nat} (hc : c ∈ kds H v) : (H c).1 ≠ 0 ∧ ty c ≠ 11 ∧ E.2.1 (ty c) < E.2.1 (ty v) := by
  obtain ⟨a1, a2, a3, a4, a5⟩ := ht.2 v hv
  exact ⟨a3 c hc, a2.na hA h (hN v hv) (ty c) (List.mem_map_of_mem hc), a2.mu hE (ty c) (List.mem_map_of_mem hc)⟩
theorem entR_rep (hE : EvOk E) (hA : EvA E) (ht : HT E H m ty) (hN : NoA ty H) (r : RC H ty phi Rn Hc) : ∀ d v, (H v).1 ≠ 0 → ty v ≠ 11 → E.2.1 (ty v) < d → Rep Hc d (phi v) (entR H ty d v) := by
  intro d
  induction d with
  | zero => intro v _ _ q; omega
  | succ d ih =>
    intro v hv h11 q
    rcases r.1 v hv h11 with ⟨c1, c2, c3, ⟨c, c4, c6⟩, c5⟩ | ⟨c1, c2, c3, c4⟩
    · rw [entR_c c1]
      refine ⟨_, [], rfl, rfl, ⟨c2, by simp, fun _ => ⟨c3, by rw [c6, c4]; rfl⟩⟩, by rw [c5]; rfl, fun _ => rfl, fun i hi => absurd hi (by simp)⟩
    · rw [entR_n c1]
      have a2 := (ht.2 v hv).2.1
      refine ⟨_, (kds H v).map (entR H ty d), rfl, by rw [List.length_map], ⟨c2, hv, fun hi => c4 hi⟩, by rw [c3]; simp, fun hi => ?_, fun i hi => ?_⟩
      · have tr := ht.tr hE (d + 1) v hv q
        rw [show kds H v = [] from tr.2.1 hi]; rfl
      · rw [List.length_map] at hi
        rw [c3, kidN_rev (by rw [List.length_map]; exact hi), List.getElem_map, List.getElem_map]
        obtain ⟨k1, k2, k3⟩ := ht.kid hE hA hN hv c1 (List.getElem_mem hi)
        exact ih _ k1 k2 (by omega)
theorem entR_ty (hE : EvOk E) (hA : EvA E) (ht : HT E H m ty) (hN : NoA ty H) : ∀ d v, (H v).1 ≠ 0 → ty v ≠ 11 → E.2.1 (ty v) < d → TyE E.1 d (entR H ty d v) ∧ hty (entR H ty d v) = ty v := by
  intro d
  induction d with
  | zero => intro v _ _ q; omega
  | succ d ih =>
    intro v hv h11 q
    by_cases c1 : ty v = 256
    · rw [entR_c c1]
      exact ⟨⟨_, [], rfl, rfl, by simp, .inr (.inl ⟨rfl, rfl, rfl⟩), fun x hx => absurd hx (by simp)⟩, c1.symm⟩
    · rw [entR_n c1]
      obtain ⟨a1, a2, a3, a4, a5⟩ := ht.2 v hv
      have l256 := a2.kd.2.2.1
      rw [List.length_map] at l256
      have kk : ∀ c, c ∈ kds H v → TyE E.1 d (entR H ty d c) ∧ hty (entR H ty d c) = ty c := fun c hc => by
        obtain ⟨k1, k2, k3⟩ := ht.kid hE hA hN hv c1 hc
        exact ih c k1 k2 (by omega)
      have em : ((kds H v).map (entR H ty d)).map hty = (kds H v).map ty := by
        rw [List.map_map]
        exact List.map_congr_left (fun c hc => (kk c hc).2)
      refine ⟨⟨_, (kds H v).map (entR H ty d), rfl, by rw [List.length_map], l256, ?_, fun x hx => ?_⟩, rfl⟩
      · rw [em]
        show LT E.1 (ty v) (H v).1 (H v).2.2.1 ((kds H v).map ty)
        rcases a2 with h | h | h | h | h | h | h | h
        · exact .inl ⟨by omega, by omega, by omega, h.2.2.2.2⟩
        · exact .inl ⟨by omega, by omega, by omega, h.2.2.2.2⟩
        · exact .inl ⟨by omega, by omega, by omega, h.2.2.2⟩
        · exact .inl ⟨by omega, by omega, by omega, h.2.2⟩
        · exact absurd h.1 h11
        · exact absurd h.1 c1
        · exact .inr (.inr (.inl ⟨h.1, h.2.1, h.2.2.1, h.2.2.2.2.1, h.2.2.2.2.2.1⟩))
        · exact .inr (.inr (.inr ⟨h.1, h.2.1, h.2.2.2.2.1⟩))
      · obtain ⟨c, hc, e⟩ := List.mem_map.mp hx
        rw [← e]; exact (kk c hc).1
end
/-- in a tree in preorder every node but the first has one parent -/
theorem PreL.par {Q : Hp} {d : Nat} (ih : ∀ v u, Pre Q d v u → ∀ w, v < w → w < u → ∃ j, v ≤ j ∧ j < w ∧ w ∈ kds Q j) : ∀ cs a b, PreL (Pre Q d) cs a b → ∀ w, a ≤ w → w < b → w ∈ cs ∨ ∃ j, a ≤ j ∧ j < w ∧ w ∈ kds Q j := by
  intro cs
  induction cs with
  | nil => intro a b h w w1 w2; have h : a = b := h; omega
  | cons c cs ih2 =>
    intro a b h w w1 w2
    obtain ⟨e, u, p, q⟩ := h
    subst e
    by_cases c1 : w = c
    · exact .inl (by simp [c1])
    · by_cases c2 : w < u
      · obtain ⟨j, j1, j2, j3⟩ := ih c u p w (by omega) c2
        exact .inr ⟨j, j1, j2, j3⟩
      · have := (Pre.ge d c u p).1
        rcases ih2 u b q w (by omega) w2 with x | ⟨j, j1, j2, j3⟩
        · exact .inl (by simp [x])
        · exact .inr ⟨j, by omega, j2, j3⟩
theorem Pre.par {Q : Hp} : ∀ d v u, Pre Q d v u → ∀ w, v < w → w < u → ∃ j, v ≤ j ∧ j < w ∧ w ∈ kds Q j := by
  intro d
  induction d with
  | zero => intro v u h; exact absurd h (by simp [Pre])
  | succ d ih =>
    intro v u h w w1 w2
    obtain ⟨_, _, _, h4⟩ := h
    rcases PreL.par ih _ _ _ h4 w (by omega) w2 with x | ⟨j, j1, j2, j3⟩
    · exact ⟨v, Nat.le_refl _, w1, x⟩
    · exact ⟨j, by omega, j2, j3⟩
theorem PreL.one {Q : Hp} {d : Nat} (ih : ∀ v u, Pre Q d v u → ∀ i j c, v ≤ i → i < u → v ≤ j → j < u → c ∈ kds Q i → c ∈ kds Q j → i = j) : ∀ cs a b, PreL (Pre Q d) cs a b → (∀ i c, a ≤ i → i < b → c ∈ kds Q i → c ∉ cs) ∧ ∀ i j c, a ≤ i → i < b → a ≤ j → j < b → c ∈ kds Q i → c ∈ kds Q j → i = j := by
  intro cs
  induction cs with
  | nil => intro a b h; have h : a = b := h; exact ⟨fun i c _ _ _ q => absurd q (by simp), fun i j c i1 i2 => by omega⟩
  | cons c0 cs ih2 =>
    intro a b h
    obtain ⟨e, u, p, q⟩ := h
    subst e
    obtain ⟨r1, r2⟩ := ih2 u b q
    obtain ⟨g1, g2⟩ := Pre.ge d c0 u p
    obtain ⟨k1, k2, k3⟩ := PreL.ge (Q := Q) (Pre.ge d) _ _ _ q
    have lo : ∀ i c, c0 ≤ i → i < u → c ∈ kds Q i → i < c ∧ c < u := fun i c a b m => g2 i a b c m
    have hi : ∀ i c, u ≤ i → i < b → c ∈ kds Q i → i < c ∧ c < b := fun i c a b m => k3 i a b c m
    refine ⟨fun i c i1 i2 hc w => ?_, fun i j c i1 i2 j1 j2 hc hc' => ?_⟩
    · rcases List.mem_cons.mp w with e | e
      · by_cases x : i < u
        · have := lo i c i1 x hc; omega
        · have := hi i c (by omega) i2 hc; omega
      · by_cases x : i < u
        · have := lo i c i1 x hc
          have := k2 c e
          omega
        · exact r1 i c (by omega) i2 hc e
    · by_cases x : i < u
      · by_cases y : j < u
        · exact ih c0 u p i j c i1 x j1 y hc hc'
        · have := lo i c i1 x hc
          have := hi j c (by omega) j2 hc'
          omega
      · by_cases y : j < u
        · have := lo j c j1 y hc'
          have := hi i c (by omega) i2 hc
          omega
        · exact r2 i j c (by omega) i2 (by omega) j2 hc hc'
theorem Pre.one {Q : Hp} : ∀ d v u, Pre Q d v u → ∀ i j c, v ≤ i → i < u → v ≤ j → j < u → c ∈ kds Q i → c ∈ kds Q j → i = j := by
  intro d
  induction d with
  | zero => intro v u h; exact absurd h (by simp [Pre])
  | succ d ih =>
    intro v u h i j c i1 i2 j1 j2 hc hc'
    obtain ⟨_, _, _, h4⟩ := h
    obtain ⟨r1, r2⟩ := PreL.one ih _ _ _ h4
    by_cases x : i = v
    · by_cases y : j = v
      · omega
      · subst x; exact absurd hc (r1 j c (by omega) j2 hc')
    · by_cases y : j = v
      · subst y; exact absurd hc' (r1 i c (by omega) i2 hc)
      · exact r2 i j c (by omega) i2 (by omega) j2 hc hc'
section
variable {E : Ev} {H : Hp} {m : Nat} {ty phi : Nat → Nat} {Rn : Nat → Option Nat} {Hc : Hp}
theorem LTm.cg {t : Nat} {x y : Nd} {ts : List Nat} (h : LTm E t x ts) (e1 : y.1 = x.1) (e2 : y.2.1 = x.2.1) (e3 : y.2.2.1 = x.2.2.1) : LTm E t y ts := by
  unfold LTm at h ⊢
  rw [e1, e2, e3]; exact h
theorem sts_get {a t x : Nat} {Es : List (List Ent)} {y : List Ent} (h : (sts a Es)[t]? = some x) (h' : Es[t]? = some y) : (x, y) ∈ (sts a Es).zip Es := by
  rw [List.mem_iff_getElem?]
  exact ⟨t, by rw [List.getElem?_zip_eq_some]; exact ⟨h, h'⟩⟩
/-- a tree that both keep -/
theorem ResR.keep (hE : EvOk E) (hA : EvA E) (ht : HT E H m ty) (hN : NoA ty H) (r : RC H ty phi Rn Hc) {v k : Nat} (hv : (H v).1 ≠ 0) (tv : ty v = 256 + k) {Q : Hp} {o : Nat → Nat} {sz : Nat} (o0 : o 0 = v) (pre : Pre Q 48 0 sz) (es : sz = szM H 48 v) (h64 : sz ≤ 64) (alk : ∀ i, i < sz → Alk H Q o i) : ∃ En, Rep Hc 39 (phi v) En ∧ En.length ≤ 64 ∧ 0 < En.length ∧ ResR E E.1 Q sz k En := by
  obtain ⟨g1, g2⟩ := Pre.ge 48 0 sz pre
  have d39 : ∀ w, (H w).1 ≠ 0 → E.2.1 (ty w) < 39 := fun w hw => by have := (ht.2 w hw).2.2.2.2; omega
  have v11 : ty v ≠ 11 := by omega
  have rep := entR_rep hE hA ht hN r 39 v hv v11 (d39 v hv)
  have tye := entR_ty hE hA ht hN 39 v hv v11 (d39 v hv)
  have len := entR_len (H := H) (ty := ty) 39 48 v (by omega)
  have alive : ∀ i, i < sz → (H (o i)).1 ≠ 0 := by
    intro i
    induction i using Nat.strongRecOn with
    | ind i ih =>
      intro hi
      by_cases c : i = 0
      · subst c; rw [o0]; exact hv
      · obtain ⟨j, j1, j2, j3⟩ := Pre.par 48 0 sz pre i (by omega) hi
        have := ih j j2 (by omega)
        have a := (alk j (by omega)).2.2.2
        exact (ht.2 (o j) this).2.2.1 (o i) (by rw [← a]; exact List.mem_map_of_mem j3)
  have len0 : 0 < (entR H ty 39 v).length := by
    by_cases c : ty v = 256
    · rw [entR_c c]; simp
    · rw [entR_n c]; simp
  refine ⟨entR H ty 39 v, rep, by omega, len0, 39, fun i => ty (o i), tye.1, by omega, g1, h64, fun i hi => ?_, by show ty (o 0) = _; rw [o0]; exact tv, fun Hx v0 enc => ?_⟩
  · obtain ⟨k1, k2, k3, k4⟩ := alk i hi
    obtain ⟨a1, a2, a3, a4, a5⟩ := ht.2 (o i) (alive i hi)
    have em : (kds Q i).map (fun i => ty (o i)) = (kds H (o i)).map ty := by rw [← k4, List.map_map]; rfl
    refine ⟨by rw [k1]; exact alive i hi, by rw [em]; exact a2.cg k1 k2 k3, ?_, a5, hN _ (alive i hi), fun c hc => g2 i (by omega) hi c hc, fun j hj c hc hc' => Pre.one 48 0 sz pre j i c (by omega) hj (by omega) hi hc' hc, fun h0 => ?_⟩
    · have : ((kds Q i).map o).Nodup := by rw [k4]; exact a4
      exact (List.pairwise_map.mp this).imp (fun h e => h (congrArg o e))
    · obtain ⟨j, j1, j2, j3⟩ := Pre.par 48 0 sz pre i h0 hi
      exact ⟨j, j2, j3⟩
  · refine ⟨fun p j => ∃ d, E.2.1 (ty (o p)) < d ∧ Enc Hx d j (entR H ty d (o p)) ∧ v0 ≤ j ∧ j + (entR H ty d (o p)).length ≤ v0 + (entR H ty 39 v).length, ⟨39, by rw [o0]; exact d39 v hv, by rw [o0]; exact enc, Nat.le_refl _, by rw [o0]; exact Nat.le_refl _⟩, fun p j hp h11 hM => ?_⟩
    obtain ⟨d, m1, m2, m3, m4⟩ := hM
    obtain ⟨d, rfl⟩ : ∃ e, d = e + 1 := ⟨d - 1, by omega⟩
    have hw := alive p hp
    obtain ⟨k1, k2, k3, k4⟩ := alk p hp
    obtain ⟨e, Es, e1, e2, ⟨e3, e4⟩, e5⟩ := m2
    by_cases c1 : ty (o p) = 256
    · rw [entR_c c1] at e1 m4
      rw [List.cons.injEq] at e1
      obtain ⟨e1, e1'⟩ := e1
      subst e1
      have en : Es = [] := List.eq_nil_of_length_eq_zero e2
      subst en
      obtain ⟨c, q1, q2, _⟩ := coin_kid ht hw c1
      rw [q1] at k4
      have : ∃ c', kds Q p = [c'] ∧ o c' = c := by
        cases hk : kds Q p with
        | nil => rw [hk] at k4; exact absurd k4 (by simp)
        | cons a l =>
          rw [hk] at k4
          cases l with
          | nil => exact ⟨a, rfl, by simpa using k4⟩
          | cons b l => exact absurd k4 (by simp)
      obtain ⟨c', s1, s2⟩ := this
      have c'z := (g2 p (by omega) hp c' (by rw [s1]; simp)).2
      refine ⟨m3, by simp at m4; omega, .inl ⟨c1, by rw [e3], by rw [e3], ⟨c', s1, ?_⟩, by rw [e3]; rfl⟩⟩
      rw [e3, (alk c' c'z).2.2.1, s2, q1]
      rfl
    · rw [entR_n c1] at e1 m4
      rw [List.cons.injEq] at e1
      obtain ⟨e1, e1'⟩ := e1
      subst e1
      have kt : ∀ c, c ∈ kds H (o p) → (H c).1 ≠ 0 ∧ ty c ≠ 11 ∧ E.2.1 (ty c) < d := fun c hc => by
        obtain ⟨x1, x2, x3⟩ := ht.kid hE hA hN hw c1 hc
        exact ⟨x1, x2, by omega⟩
      have eE : Es = (kds H (o p)).map (entR H ty d) := by
        refine Wf.parts (d := d) (d' := d) (by rw [e2, List.length_map]) (fun x hx => ?_) (fun x hx => ?_) e1'.symm
        · obtain ⟨k, hk, ek⟩ := List.getElem_of_mem hx
          have : ((sts (j + 1) Es)[k]'(by rw [sts_len]; exact hk), x) ∈ (sts (j + 1) Es).zip Es := by
            rw [List.mem_iff_getElem]
            refine ⟨k, by rw [List.length_zip, sts_len]; omega, ?_⟩
            rw [List.getElem_zip, ek]
          exact (e5 _ this).wf
        · obtain ⟨c, hc, ec⟩ := List.mem_map.mp hx
          rw [← ec]
          obtain ⟨x1, x2, x3⟩ := kt c hc
          exact (entR_ty hE hA ht hN d c x1 x2 x3).1.wf
      rw [List.length_cons] at m4
      refine ⟨m3, by omega, .inr ⟨c1, by rw [e3]; exact k1.symm, fun _ => by rw [e3]; exact ⟨k2.symm, k3.symm⟩, ?_, fun t c x hc hx => ?_⟩⟩
      · show (Hx j).2.2.2.length = _
        rw [e3]
        show (sts (j + 1) Es).reverse.length = _
        rw [List.length_reverse, sts_len, eE, List.length_map, ← k4, List.length_map]
      · have hx' : (sts (j + 1) Es)[t]? = some x := by
          rw [← hx]
          show _ = (Hx j).2.2.2.reverse[t]?
          rw [e3]
          show _ = (sts (j + 1) Es).reverse.reverse[t]?
          rw [List.reverse_reverse]
        have hy : Es[t]? = some (entR H ty d (o c)) := by
          rw [eE, ← k4, List.map_map, List.getElem?_map, hc]
          rfl
        have z := sts_get hx' hy
        have i1 := sts_in _ _ _ z
        have cm : o c ∈ kds H (o p) := by rw [← k4]; exact List.mem_map_of_mem (List.mem_of_getElem? hc)
        have e1'' : Es.flatten.length = ((kds H (o p)).map (entR H ty d)).flatten.length := by rw [eE]
        simp only at i1
        exact ⟨d, (kt _ cm).2.2, e5 _ z, by omega, by omega⟩
end
