/-! THE MACHINE'S STATE, with what looking knows beside it: heap of typed nodes, frames, places asked for, hands -/
/-- fields of structures by identity, depth of types, whether a function uses resources, a resource's bit for a unit; the coins that a place had (sort, address, kind) -/
abbrev Ev : Type := (Nat → List Nat) × (Nat → Nat) × (Nat → Nat → Bool) × (Nat → Nat → Nat) × (Nat → Int64 → Nat → Nat)
/-- unit, function, next; locals; stack; references that were given to the frame above -/
abbrev Fm : Type := (Nat × Nat × Nat) × (Nat → Option Sl) × (Nat × (Nat → Sl)) × (Nat → Option Sl)
/-- sort, address, kind, balance, there, tree -/
abbrev Ask : Type := Nat × Int64 × Nat × Int64 × Bool × Nat
def EvOk (E : Ev) : Prop := (∀ i c, c ∈ E.1 i → E.2.1 c < E.2.1 (256 + i)) ∧ (∀ t, E.2.1 t < E.2.1 (t + 2 ^ 32)) ∧ E.2.1 11 < E.2.1 256
/-- what a type asks of a node -/
def LTm (E : Ev) (t : Nat) (x : Nd) (ts : List Nat) : Prop := (t = 1 ∧ x.1 = 1 ∧ x.2.1 = 0 ∧ (x.2.2.1 = 0 ∨ x.2.2.1 = 1) ∧ ts = []) ∨ (t = 2 ∧ x.1 = 2 ∧ x.2.1 = 0 ∧ (∃ n, n < 256 ∧ x.2.2.1 = lN n) ∧ ts = []) ∨ ((t = 3 ∨ t = 5) ∧ x.1 = t ∧ x.2.1 = 0 ∧ ts = []) ∨ (t = 4 ∧ x.1 = 4 ∧ ts = []) ∨ (t = 11 ∧ x.1 = 3 ∧ x.2.1 = 0 ∧ ts = []) ∨ (t = 256 ∧ x.1 = 6 ∧ x.2.1 = 0 ∧ x.2.2.1 = 0 ∧ ts = [11]) ∨ (256 < t ∧ t < 2 ^ 32 ∧ x.1 = 6 ∧ x.2.1 = 0 ∧ x.2.2.1 = lN (t - 256) ∧ ts = E.1 (t - 256) ∧ ts.length ≤ 256) ∨ (2 ^ 32 ≤ t ∧ x.1 = 7 ∧ x.2.1 = 0 ∧ x.2.2.1 = 0 ∧ (∀ c, c ∈ ts → c = t - 2 ^ 32) ∧ ts.length ≤ 256)
def HT (E : Ev) (H : Hp) (m : Nat) (ty : Nat → Nat) : Prop := (∀ v, (H v).1 = 0 → H v = (0, 0, 0, [])) ∧ (∀ v, (H v).1 ≠ 0 → v < m ∧ LTm E (ty v) (H v) ((kds H v).map ty) ∧ (∀ c, c ∈ kds H v → (H c).1 ≠ 0) ∧ (kds H v).Nodup ∧ E.2.1 (ty v) ≤ 38)
def PU (H : Hp) : Prop := ∀ v w c, c ∈ kds H v → c ∈ kds H w → v = w
theorem LTm.mu {E : Ev} (hE : EvOk E) {t : Nat} {x : Nd} {ts : List Nat} (h : LTm E t x ts) : ∀ c, c ∈ ts → E.2.1 c < E.2.1 t := by
  intro c hc
  rcases h with h | h | h | h | h | h | h | h
  · rw [h.2.2.2.2] at hc; exact absurd hc (by simp)
  · rw [h.2.2.2.2] at hc; exact absurd hc (by simp)
  · rw [h.2.2.2] at hc; exact absurd hc (by simp)
  · rw [h.2.2] at hc; exact absurd hc (by simp)
  · rw [h.2.2.2] at hc; exact absurd hc (by simp)
  · obtain ⟨e1, _, _, _, e2⟩ := h
    rw [e2] at hc
    rw [List.mem_singleton.mp hc, e1]
    exact hE.2.2
  · obtain ⟨h1, h2, _, _, _, e, _⟩ := h
    rw [e] at hc
    have := hE.1 _ _ hc
    rwa [show 256 + (t - 256) = t by omega] at this
  · obtain ⟨h1, _, _, _, e, _⟩ := h
    have := hE.2.1 c
    rwa [show c + 2 ^ 32 = t by rw [e c hc]; omega] at this
theorem HT.fo {E : Ev} (hE : EvOk E) {H : Hp} {m : Nat} {ty : Nat → Nat} (h : HT E H m ty) (p : PU H) : Fo H := by
  refine ⟨p, fun v => E.2.1 (ty v), fun v c hc => ?_⟩
  have hv : (H v).1 ≠ 0 := fun q => by rw [kds, h.1 v q] at hc; exact absurd hc (by simp)
  exact (h.2 v hv).2.1.mu hE _ (List.mem_map_of_mem hc)
theorem HT.al {E : Ev} {H : Hp} {m : Nat} {ty : Nat → Nat} (h : HT E H m ty) {v c : Nat} (hc : c ∈ kds H v) : (H v).1 ≠ 0 ∧ (H c).1 ≠ 0 := by
  have hv : (H v).1 ≠ 0 := fun q => by rw [kds, h.1 v q] at hc; exact absurd hc (by simp)
  exact ⟨hv, (h.2 v hv).2.2.1 c hc⟩
def pln (s : Sl) : Option Nat := if s.2.1 = 0 then some s.1 else none
def LvA (fr : Nat → Fm) (nf na : Nat) (ak : Nat → Ask) (hd : Nat → Option Nat) (a d k : Nat) : Option Nat := if a = 0 then (if d < nf ∧ k < (fr d).2.2.1.1 then pln ((fr d).2.2.1.2 k) else none) else if a = 1 then (if d < nf then ((fr d).2.1 k).bind pln else none) else if a = 2 then (if d = 0 ∧ k < na ∧ (ak k).1 = 3 ∧ (ak k).2.2.2.2.1 = true then some (ak k).2.2.2.2.2 else none) else if a = 3 ∧ d = 0 then hd k else none
def RfA (fr : Nat → Fm) (nf : Nat) (d : Nat) (s : Sl) : Prop := d < nf ∧ s.2.1 ≠ 0 ∧ ((∃ k, k < (fr d).2.2.1.1 ∧ (fr d).2.2.1.2 k = s) ∨ (∃ k, (fr d).2.1 k = some s) ∨ ∃ k, (fr d).2.2.2 k = some s)
def ghA (fr : Nat → Fm) (nf : Nat) (d k : Nat) : Option Sl := if d < nf then (fr d).2.2.2 k else none
def rsA (E : Ev) (fr : Nat → Fm) (nf : Nat) (d : Nat) : Bool := decide (d < nf) && E.2.2.1 (fr d).1.1 (fr d).1.2.1
def rbA (E : Ev) (fr : Nat → Fm) (ak : Nat → Ask) (d j : Nat) : Nat := E.2.2.2.1 (fr d).1.1 (ak j).2.2.1
def SlT (H : Hp) (ty : Nat → Nat) (s : Sl) : Prop := (H s.1).1 ≠ 0 ∧ ty s.1 = s.2.2.1 ∧ (s.2.1 = 0 ∨ s.2.1 = 8 ∨ s.2.1 = 9)
def MJ0 (E : Ev) (H : Hp) (m : Nat) (ty : Nat → Nat) (fr : Nat → Fm) (nf na : Nat) (ak : Nat → Ask) (hd : Nat → Option Nat) : Prop := BInv H (LvA fr nf na ak hd) (RfA fr nf) (ghA fr nf) (rsA E fr nf) (rbA E fr ak) ∧ HT E H m ty ∧ (∀ d, d < nf → (∀ k, k < (fr d).2.2.1.1 → SlT H ty ((fr d).2.2.1.2 k)) ∧ (∀ k s, (fr d).2.1 k = some s → k < 40 ∧ SlT H ty s) ∧ ∀ k s, (fr d).2.2.2 k = some s → s.2.1 ≠ 0 ∧ SlT H ty s) ∧ (∀ k x, hd k = some x → (H x).1 ≠ 0) ∧ (∀ k, k < na → (ak k).1 = 3 → (ak k).2.2.2.2.1 = true → (H (ak k).2.2.2.2.2).1 ≠ 0 ∧ ty (ak k).2.2.2.2.2 = 256 + (ak k).2.2.1) ∧ (∀ k, 0 < nf → (fr (nf - 1)).2.2.2 k = none) ∧ 0 < nf
/-- the topmost frame set -/
def setF (fr : Nat → Fm) (d : Nat) (x : Fm) : Nat → Fm := fun e => if e = d then x else fr e
theorem setF_s (fr : Nat → Fm) (d : Nat) (x : Fm) : setF fr d x d = x := by simp [setF]
theorem setF_n {fr : Nat → Fm} {d e : Nat} {x : Fm} (h : e ≠ d) : setF fr d x e = fr e := by simp [setF, h]
def setH (x : Fm) (h : Nat) : Fm := (x.1, x.2.1, (h, x.2.2.1.2), x.2.2.2)
def setS (x : Fm) (h : Nat) (s : Sl) : Fm := (x.1, x.2.1, (h + 1, fun k => if k = h then s else x.2.2.1.2 k), x.2.2.2)
def setLo (x : Fm) (k : Nat) (s : Option Sl) : Fm := (x.1, fun j => if j = k then s else x.2.1 j, x.2.2.1, x.2.2.2)
/-- values are laid elsewhere, by a map of places -/
theorem BInv.relay {H : Hp} {Lv Lv' : Nat → Nat → Nat → Option Nat} {Rf : Nat → Sl → Prop} {gh : Nat → Nat → Option Sl} {rs : Nat → Bool} {rb : Nat → Nat → Nat} (I : BInv H Lv Rf gh rs rb) (ρ : Nat → Nat → Nat → Nat × Nat × Nat) (h1 : ∀ a d k X, Lv' a d k = some X → ∃ a0 d0 k0, Lv a0 d0 k0 = some X ∧ ρ a0 d0 k0 = (a, d, k)) (hk : ∀ a d k X, a = 1 ∨ a = 2 → Lv a d k = some X → Lv' a d k = some X ∨ ∀ e s, Rf e s → ¬ Sub H X s.1) : BInv H Lv' Rf gh rs rb := by
  refine I.lv (fun a d k X q => ?_) (fun a d k a' d' k' X q q' => ?_) (fun a d k X h0 q => ?_)
  · obtain ⟨_, _, _, h, _⟩ := h1 a d k X q
    exact I.2.1 _ _ _ _ h
  · obtain ⟨a0, d0, k0, p1, p2⟩ := h1 a d k X q
    obtain ⟨a1, d1, k1, q1, q2⟩ := h1 a' d' k' X q'
    obtain ⟨e1, e2, e3⟩ := I.2.2.1 _ _ _ _ _ _ _ p1 q1
    subst e1 e2 e3
    rw [p2] at q2
    simp only [Prod.mk.injEq] at q2
    exact q2
  · by_cases c : a = 1 ∨ a = 2
    · exact hk a d k X c q
    · exact .inr (I.free q (fun e => c (.inl e)) (fun e => c (.inr e)))
section
variable {E : Ev} {H : Hp} {m : Nat} {ty : Nat → Nat} {fr : Nat → Fm} {nf na : Nat} {ak : Nat → Ask} {hd : Nat → Option Nat}
theorem lv0 (fr : Nat → Fm) (nf na : Nat) (ak : Nat → Ask) (hd : Nat → Option Nat) (d k : Nat) : LvA fr nf na ak hd 0 d k = if d < nf ∧ k < (fr d).2.2.1.1 then pln ((fr d).2.2.1.2 k) else none := rfl
theorem lv1 (fr : Nat → Fm) (nf na : Nat) (ak : Nat → Ask) (hd : Nat → Option Nat) (d k : Nat) : LvA fr nf na ak hd 1 d k = if d < nf then ((fr d).2.1 k).bind pln else none := rfl
theorem lv2 (fr : Nat → Fm) (nf na : Nat) (ak : Nat → Ask) (hd : Nat → Option Nat) (d k : Nat) : LvA fr nf na ak hd 2 d k = if d = 0 ∧ k < na ∧ (ak k).1 = 3 ∧ (ak k).2.2.2.2.1 = true then some (ak k).2.2.2.2.2 else none := rfl
theorem lv3 (fr : Nat → Fm) (nf na : Nat) (ak : Nat → Ask) (hd : Nat → Option Nat) (d k : Nat) : LvA fr nf na ak hd 3 d k = if d = 0 then hd k else none := by
  unfold LvA
  by_cases c : d = 0
  · rw [if_neg (by decide), if_neg (by decide), if_neg (by decide), if_pos ⟨rfl, c⟩, if_pos c]
  · rw [if_neg (by decide), if_neg (by decide), if_neg (by decide), if_neg (fun q => c q.2), if_neg c]
theorem lv4 {fr : Nat → Fm} {nf na : Nat} {ak : Nat → Ask} {hd : Nat → Option Nat} {a d k X : Nat} (h : LvA fr nf na ak hd a d k = some X) : a < 4 := by
  by_cases c : a < 4
  · exact c
  · unfold LvA at h
    rw [if_neg (by omega), if_neg (by omega), if_neg (by omega), if_neg (by omega)] at h
    exact absurd h (by simp)
theorem setF_gh {nf d : Nat} {x : Fm} (h3 : ∀ k, x.2.2.2 k = (fr d).2.2.2 k) : ghA (setF fr d x) nf = ghA fr nf := by
  funext e k
  unfold ghA
  by_cases c : e = d
  · subst c; rw [setF_s, h3]
  · rw [setF_n c]
theorem setF_rs {nf d : Nat} {x : Fm} (h1 : x.1.1 = (fr d).1.1) (h2 : x.1.2.1 = (fr d).1.2.1) : rsA E (setF fr d x) nf = rsA E fr nf := by
  funext e
  unfold rsA
  by_cases c : e = d
  · subst c; rw [setF_s, h1, h2]
  · rw [setF_n c]
theorem setF_rb {d : Nat} {x : Fm} (h1 : x.1.1 = (fr d).1.1) : rbA E (setF fr d x) ak = rbA E fr ak := by
  funext e j
  unfold rbA
  by_cases c : e = d
  · subst c; rw [setF_s, h1]
  · rw [setF_n c]
theorem lvo {nf d : Nat} {x : Fm} {hd' : Nat → Option Nat} {a e k : Nat} (h3 : a ≠ 3) (h : ¬ (a ≤ 1 ∧ e = d)) : LvA (setF fr d x) nf na ak hd' a e k = LvA fr nf na ak hd a e k := by
  by_cases c0 : a = 0
  · subst c0; rw [lv0, lv0, setF_n (fun q => h ⟨by omega, q⟩)]
  · by_cases c1 : a = 1
    · subst c1; rw [lv1, lv1, setF_n (fun q => h ⟨by omega, q⟩)]
    · unfold LvA
      rw [if_neg c0, if_neg c1, if_neg c0, if_neg c1]
      by_cases c2 : a = 2
      · rw [if_pos c2, if_pos c2]
      · rw [if_neg c2, if_neg c2, if_neg (fun q => h3 q.1), if_neg (fun q => h3 q.1)]
/-- the topmost frame and the hands change, the heap does not -/
theorem MJ0.top (I : MJ0 E H m ty fr nf na ak hd) (x : Fm) (hx1 : x.1.1 = (fr (nf - 1)).1.1) (hx2 : x.1.2.1 = (fr (nf - 1)).1.2.1) (hx3 : ∀ k, x.2.2.2 k = none) (hd' : Nat → Option Nat) (ρ : Nat → Nat → Nat → Nat × Nat × Nat)
    (cρ : ∀ a d k, a ≠ 3 → ¬ (a ≤ 1 ∧ d = nf - 1) → ρ a d k = (a, d, k))
    (c0 : ∀ k, k < x.2.2.1.1 → ∀ X, pln (x.2.2.1.2 k) = some X → ∃ a0 d0 k0, LvA fr nf na ak hd a0 d0 k0 = some X ∧ ρ a0 d0 k0 = (0, nf - 1, k))
    (c1 : ∀ k X, (x.2.1 k).bind pln = some X → ∃ a0 d0 k0, LvA fr nf na ak hd a0 d0 k0 = some X ∧ ρ a0 d0 k0 = (1, nf - 1, k))
    (c3 : ∀ k X, hd' k = some X → ∃ a0 d0 k0, LvA fr nf na ak hd a0 d0 k0 = some X ∧ ρ a0 d0 k0 = (3, 0, k))
    (c5 : ∀ k X, ((fr (nf - 1)).2.1 k).bind pln = some X → (x.2.1 k).bind pln = some X ∨ ∀ e s, RfA (setF fr (nf - 1) x) nf e s → ¬ Sub H X s.1)
    (cr : ∀ s, s.2.1 ≠ 0 → ((∃ k, k < x.2.2.1.1 ∧ x.2.2.1.2 k = s) ∨ ∃ k, x.2.1 k = some s) → RfA fr nf (nf - 1) s ∨ RefOk H (LvA fr nf na ak hd) (ghA fr nf) (rsA E fr nf) (rbA E fr ak) (nf - 1) s)
    (cs : ∀ k, k < x.2.2.1.1 → SlT H ty (x.2.2.1.2 k)) (cl : ∀ k s, x.2.1 k = some s → k < 40 ∧ SlT H ty s) : MJ0 E H m ty (setF fr (nf - 1) x) nf na ak hd' := by
  obtain ⟨I, ht, sl, hh, hk, hg, hnf⟩ := I
  have top : nf - 1 < nf := by omega
  have eg : ghA (setF fr (nf - 1) x) nf = ghA fr nf := setF_gh (fun k => by rw [hx3 k, hg k hnf])
  have er : rsA E (setF fr (nf - 1) x) nf = rsA E fr nf := setF_rs hx1 hx2
  have eb : rbA E (setF fr (nf - 1) x) ak = rbA E fr ak := setF_rb hx1
  have I2 : BInv H (LvA fr nf na ak hd) (RfA (setF fr (nf - 1) x) nf) (ghA fr nf) (rsA E fr nf) (rbA E fr ak) := by
    refine I.rf (nf - 1) (fun k => by rw [ghA, if_pos top]; exact hg k hnf) (by simp [rsA]; omega) (fun e s c => ?_) (fun s q => ?_)
    · simp only [RfA, setF_n c]
    · obtain ⟨_, q1, q2⟩ := q
      rw [setF_s] at q2
      rcases q2 with q | q | ⟨k, q⟩
      · exact cr s q1 (.inl q)
      · exact cr s q1 (.inr q)
      · rw [hx3 k] at q; exact absurd q (by simp)
  have I3 : BInv H (LvA (setF fr (nf - 1) x) nf na ak hd') (RfA (setF fr (nf - 1) x) nf) (ghA fr nf) (rsA E fr nf) (rbA E fr ak) := by
    refine I2.relay ρ (fun a d k X q => ?_) (fun a d k X c q => ?_)
    · by_cases c : a = 3
      · subst c
        rw [lv3] at q
        by_cases c : d = 0
        · subst c; rw [if_pos rfl] at q; exact c3 k X q
        · rw [if_neg c] at q; exact absurd q (by simp)
      · by_cases c2 : a ≤ 1 ∧ d = nf - 1
        · obtain ⟨c2, c4⟩ := c2
          subst c4
          by_cases c6 : a = 0
          · subst c6
            rw [lv0, setF_s] at q
            by_cases c7 : nf - 1 < nf ∧ k < x.2.2.1.1
            · rw [if_pos c7] at q; exact c0 k c7.2 X q
            · rw [if_neg c7] at q; exact absurd q (by simp)
          · have : a = 1 := by omega
            subst this
            rw [lv1, if_pos top, setF_s] at q
            exact c1 k X q
        · rw [lvo (hd := hd) c c2] at q
          exact ⟨a, d, k, q, cρ a d k c c2⟩
    · by_cases c2 : a ≤ 1 ∧ d = nf - 1
      · obtain ⟨c2, c4⟩ := c2
        subst c4
        have : a = 1 := by omega
        subst this
        rw [lv1, if_pos top] at q
        rw [lv1, if_pos top, setF_s]
        exact c5 k X q
      · rw [lvo (hd := hd) (by omega) c2]; exact .inl q
  refine ⟨by rw [eg, er, eb]; exact I3, ht, fun d h => ?_, fun k X q => ?_, hk, fun k _ => by rw [setF_s]; exact hx3 k, hnf⟩
  · by_cases c : d = nf - 1
    · subst c
      rw [setF_s]
      exact ⟨cs, cl, fun k s q => by rw [hx3 k] at q; exact absurd q (by simp)⟩
    · rw [setF_n c]; exact sl d h
  · obtain ⟨a0, d0, k0, q, _⟩ := c3 k X q
    have := lv4 q
    by_cases e0 : a0 = 0
    · subst e0
      rw [lv0] at q
      by_cases cc : d0 < nf ∧ k0 < (fr d0).2.2.1.1
      · rw [if_pos cc, pln] at q
        have := ((sl d0 cc.1).1 k0 cc.2).1
        by_cases c9 : ((fr d0).2.2.1.2 k0).2.1 = 0
        · rw [if_pos c9] at q; cases q; exact this
        · rw [if_neg c9] at q; exact absurd q (by simp)
      · rw [if_neg cc] at q; exact absurd q (by simp)
    · by_cases e1 : a0 = 1
      · subst e1
        rw [lv1] at q
        by_cases cc : d0 < nf
        · rw [if_pos cc] at q
          cases hs : (fr d0).2.1 k0 with
          | none => rw [hs] at q; exact absurd q (by simp)
          | some s =>
            rw [hs, Option.bind_some, pln] at q
            have := ((sl d0 cc).2.1 k0 s hs).2.1
            by_cases c9 : s.2.1 = 0
            · rw [if_pos c9] at q; cases q; exact this
            · rw [if_neg c9] at q; exact absurd q (by simp)
        · rw [if_neg cc] at q; exact absurd q (by simp)
      · by_cases e2 : a0 = 2
        · subst e2
          rw [lv2] at q
          by_cases cc : d0 = 0 ∧ k0 < na ∧ (ak k0).1 = 3 ∧ (ak k0).2.2.2.2.1 = true
          · rw [if_pos cc] at q; cases q; exact (hk k0 cc.2.1 cc.2.2.1 cc.2.2.2).1
          · rw [if_neg cc] at q; exact absurd q (by simp)
        · have e3 : a0 = 3 := by omega
          subst e3
          rw [lv3] at q
          by_cases cc : d0 = 0
          · rw [if_pos cc] at q; exact hh k0 X q
          · rw [if_neg cc] at q; exact absurd q (by simp)
theorem pln0 {s : Sl} (h : s.2.1 = 0) : pln s = some s.1 := by rw [pln, if_pos h]
theorem pln_e {s : Sl} {X : Nat} (h : pln s = some X) : s.2.1 = 0 ∧ s.1 = X := by
  unfold pln at h
  by_cases c : s.2.1 = 0
  · rw [if_pos c] at h; cases h; exact ⟨c, rfl⟩
  · rw [if_neg c] at h; exact absurd h (by simp)
/-- the topmost n values are taken into hands -/
theorem MJ0.popN (I : MJ0 E H m ty fr nf na ak (fun _ => none)) {n : Nat} (hn : n ≤ (fr (nf - 1)).2.2.1.1) (hp : ∀ i, i < n → ((fr (nf - 1)).2.2.1.2 ((fr (nf - 1)).2.2.1.1 - n + i)).2.1 = 0) : MJ0 E H m ty (setF fr (nf - 1) (setH (fr (nf - 1)) ((fr (nf - 1)).2.2.1.1 - n))) nf na ak (fun i => if i < n then some ((fr (nf - 1)).2.2.1.2 ((fr (nf - 1)).2.2.1.1 - n + i)).1 else none) := by
  have hnf := I.2.2.2.2.2.2
  have sl := I.2.2.1 (nf - 1) (by omega)
  refine I.top (setH (fr (nf - 1)) ((fr (nf - 1)).2.2.1.1 - n)) rfl rfl (fun k => I.2.2.2.2.2.1 k hnf) _ (fun a d k => if a = 0 ∧ d = nf - 1 ∧ (fr (nf - 1)).2.2.1.1 - n ≤ k then (3, 0, k - ((fr (nf - 1)).2.2.1.1 - n)) else (a, d, k)) ?_ ?_ ?_ ?_ ?_ ?_ ?_ ?_
  · intro a d k _ h; exact if_neg (fun q => h ⟨by omega, q.2.1⟩)
  · intro k hk X q
    simp only [setH] at hk q
    refine ⟨0, nf - 1, k, ?_, if_neg (by omega)⟩
    rw [lv0, if_pos ⟨by omega, by omega⟩]; exact q
  · intro k X q
    refine ⟨1, nf - 1, k, ?_, if_neg (by omega)⟩
    rw [lv1, if_pos (by omega)]; exact q
  · intro k X q
    by_cases c : k < n
    · simp only [if_pos c, Option.some.injEq] at q
      refine ⟨0, nf - 1, (fr (nf - 1)).2.2.1.1 - n + k, ?_, ?_⟩
      · rw [lv0, if_pos ⟨by omega, by omega⟩, pln0 (hp k c), q]
      · rw [if_pos ⟨rfl, rfl, by omega⟩, show (fr (nf - 1)).2.2.1.1 - n + k - ((fr (nf - 1)).2.2.1.1 - n) = k by omega]
    · simp only [if_neg c] at q; exact absurd q (by simp)
  · intro k X q; exact .inl q
  · intro s h0 h
    refine .inl ⟨by omega, h0, ?_⟩
    rcases h with ⟨k, k1, k2⟩ | h
    · simp only [setH] at k1 k2
      exact .inl ⟨k, by omega, k2⟩
    · exact .inr (.inl h)
  · intro k h
    simp only [setH] at h ⊢
    exact sl.1 k (by omega)
  · exact sl.2.1
end
