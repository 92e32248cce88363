/-! THE MACHINE'S STATE: places asked for, calls and returns -/
theorem BInv.map {H : Hp} {Lv Lv' : Nat → Nat → Nat → Option Nat} {Rf : Nat → Sl → Prop} {gh : Nat → Nat → Option Sl} {rs : Nat → Bool} {rb : Nat → Nat → Nat} (I : BInv H Lv Rf gh rs rb) (ρ : Nat → Nat → Nat → Nat × Nat × Nat) (h1 : ∀ a d k X, Lv' a d k = some X → ∃ a0 d0 k0, Lv a0 d0 k0 = some X ∧ ρ a0 d0 k0 = (a, d, k)) : (∀ a d k X, Lv' a d k = some X → Rt H X) ∧ ∀ a d k a' d' k' X, Lv' a d k = some X → Lv' a' d' k' = some X → a = a' ∧ d = d' ∧ k = k' := by
  refine ⟨fun a d k X q => ?_, fun a d k a' d' k' X q q' => ?_⟩
  · obtain ⟨_, _, _, h, _⟩ := h1 a d k X q
    exact I.2.1 _ _ _ _ h
  · obtain ⟨a0, d0, k0, p1, p2⟩ := h1 a d k X q
    obtain ⟨a1, d1, k1, q1, q2⟩ := h1 a' d' k' X q'
    obtain ⟨e1, e2, e3⟩ := I.2.2.1 _ _ _ _ _ _ _ p1 q1
    subst e1 e2 e3
    rw [p2] at q2
    simp only [Prod.mk.injEq] at q2
    exact q2
theorem BInv.rb {H : Hp} {Lv : Nat → Nat → Nat → Option Nat} {Rf : Nat → Sl → Prop} {gh : Nat → Nat → Option Sl} {rs : Nat → Bool} {rb rb' : Nat → Nat → Nat} (I : BInv H Lv Rf gh rs rb) (h : ∀ d s, Rf d s → ∀ j X, Lv 2 0 j = some X → rb' d j = rb d j) : BInv H Lv Rf gh rs rb' := by
  obtain ⟨f, rt, inj, ro, r⟩ := I
  refine ⟨f, rt, inj, fun d s q => ?_, r⟩
  obtain ⟨b, hb, p | p | p⟩ := ro d s q
  · exact ⟨b, hb, .inl p⟩
  · exact ⟨b, hb, .inr (.inl p)⟩
  · obtain ⟨h0, h1, j, X, h2, h3, h4⟩ := p
    exact ⟨b, hb, .inr (.inr ⟨h0, h1, j, X, h2, by rw [h d s q j X h2]; exact h3, h4⟩)⟩
section
variable {E : Ev} {H : Hp} {m : Nat} {ty : Nat → Nat} {fr : Nat → Fm} {nf na : Nat} {ak : Nat → Ask} {hd : Nat → Option Nat}
/-- places asked for and hands change -/
theorem MJ0.ask (I : MJ0 E H m ty fr nf na ak hd) (na' : Nat) (ak' : Nat → Ask) (hd' : Nat → Option Nat) (ρ : Nat → Nat → Nat → Nat × Nat × Nat) (cρ : ∀ a d k, a ≤ 1 → ρ a d k = (a, d, k)) (c2 : ∀ k, k < na' → (ak' k).1 = 3 → (ak' k).2.2.2.2.1 = true → ∃ a0 d0 k0, LvA fr nf na ak hd a0 d0 k0 = some (ak' k).2.2.2.2.2 ∧ ρ a0 d0 k0 = (2, 0, k)) (c3 : ∀ k X, hd' k = some X → ∃ a0 d0 k0, LvA fr nf na ak hd a0 d0 k0 = some X ∧ ρ a0 d0 k0 = (3, 0, k)) (c5 : ∀ k, k < na → (ak k).1 = 3 → (ak k).2.2.2.2.1 = true → (k < na' ∧ (ak' k).1 = 3 ∧ (ak' k).2.2.2.2.1 = true ∧ (ak' k).2.2.2.2.2 = (ak k).2.2.2.2.2) ∨ ∀ e s, RfA fr nf e s → ¬ Sub H (ak k).2.2.2.2.2 s.1) (hna : na ≤ na') (ckd : ∀ k, k < na → (ak' k).2.2.1 = (ak k).2.2.1) (ct : ∀ k, k < na' → (ak' k).1 = 3 → (ak' k).2.2.2.2.1 = true → ty (ak' k).2.2.2.2.2 = 256 + (ak' k).2.2.1) : MJ0 E H m ty fr nf na' ak' hd' := by
  have lva := @MJ0.lva _ _ _ _ _ _ _ _ _ I
  obtain ⟨J, ht, sl, hh, hk, hg, hnf⟩ := I
  have lo : ∀ a d k, a ≤ 1 → LvA fr nf na' ak' hd' a d k = LvA fr nf na ak hd a d k := by
    intro a d k ha
    by_cases c : a = 0
    · subst c; rfl
    · have : a = 1 := by omega
      subst this; rfl
  have J1 : BInv H (LvA fr nf na ak hd) (RfA fr nf) (ghA fr nf) (rsA E fr nf) (rbA E fr ak') := by
    refine J.rb (fun d s q j X h => ?_)
    rw [lv2] at h
    by_cases cc : (0 : Nat) = 0 ∧ j < na ∧ (ak j).1 = 3 ∧ (ak j).2.2.2.2.1 = true
    · unfold rbA; rw [ckd j cc.2.1]
    · rw [if_neg cc] at h; exact absurd h (by simp)
  have J2 : BInv H (LvA fr nf na' ak' hd') (RfA fr nf) (ghA fr nf) (rsA E fr nf) (rbA E fr ak') := by
    refine J1.relay ρ (fun a d k X q => ?_) (fun a d k X c q => ?_)
    · have a4 := lv4 q
      by_cases c1 : a ≤ 1
      · rw [lo a d k c1] at q; exact ⟨a, d, k, q, cρ a d k c1⟩
      · by_cases c2' : a = 2
        · subst c2'
          rw [lv2] at q
          by_cases cc : d = 0 ∧ k < na' ∧ (ak' k).1 = 3 ∧ (ak' k).2.2.2.2.1 = true
          · rw [if_pos cc] at q; cases q
            obtain ⟨e1, e2, e3, e4⟩ := cc
            subst e1
            exact c2 k e2 e3 e4
          · rw [if_neg cc] at q; exact absurd q (by simp)
        · have e3 : a = 3 := by omega
          subst e3
          rw [lv3] at q
          by_cases cc : d = 0
          · subst cc; rw [if_pos rfl] at q; exact c3 k X q
          · rw [if_neg cc] at q; exact absurd q (by simp)
    · rcases c with c | c
      · subst c; rw [lo _ _ _ (by omega)]; exact .inl q
      · subst c
        rw [lv2] at q
        by_cases cc : d = 0 ∧ k < na ∧ (ak k).1 = 3 ∧ (ak k).2.2.2.2.1 = true
        · rw [if_pos cc] at q; cases q
          rcases c5 k cc.2.1 cc.2.2.1 cc.2.2.2 with ⟨h1, h2, h3, h4⟩ | h
          · left; rw [lv2, if_pos ⟨cc.1, h1, h2, h3⟩, h4]
          · exact .inr h
        · rw [if_neg cc] at q; exact absurd q (by simp)
  refine ⟨J2, ht, sl, fun k X q => ?_, fun k k1 k2 k3 => ?_, hg, hnf⟩
  · obtain ⟨a0, d0, k0, q, _⟩ := c3 k X q
    exact lva q
  · obtain ⟨a0, d0, k0, q, _⟩ := c2 k k1 k2 k3
    exact ⟨lva q, ct k k1 k2 k3⟩
/-- a call: n slots become what a new frame takes; what is given as references stays with the caller -/
theorem MJ0.call (I : MJ0 E H m ty fr nf na ak (fun _ => none)) {n u' f' nx : Nat} (ps : Nat → Sl) (hn : n ≤ (fr (nf - 1)).2.2.1.1) (hn8 : n ≤ 8) (hp : ∀ k, k < n → (ps k).1 = ((fr (nf - 1)).2.2.1.2 ((fr (nf - 1)).2.2.1.1 - n + k)).1 ∧ (ps k).2.1 = ((fr (nf - 1)).2.2.1.2 ((fr (nf - 1)).2.2.1.1 - n + k)).2.1 ∧ (ps k).2.2.1 = ((fr (nf - 1)).2.2.1.2 ((fr (nf - 1)).2.2.1.1 - n + k)).2.2.1 ∧ ((ps k).2.1 ≠ 0 → ob (ps k).2.2.2.1 (40 + k) = true))
    (h6 : ∀ k, k < n → ((fr (nf - 1)).2.2.1.2 ((fr (nf - 1)).2.2.1.1 - n + k)).2.1 = 9 → (∀ s, s.2.1 ≠ 0 → ((∃ j, j < (fr (nf - 1)).2.2.1.1 - n ∧ (fr (nf - 1)).2.2.1.2 j = s) ∨ ∃ j, (fr (nf - 1)).2.1 j = some s) → mt s.2.2.2.1 ((fr (nf - 1)).2.2.1.2 ((fr (nf - 1)).2.2.1.1 - n + k)).2.2.2.1 → s.2.1 = 9 ∧ s.2.2.2.2 = false) ∧ ∀ j, j < n → j ≠ k → ((fr (nf - 1)).2.2.1.2 ((fr (nf - 1)).2.2.1.1 - n + j)).2.1 ≠ 0 → ¬ mt ((fr (nf - 1)).2.2.1.2 ((fr (nf - 1)).2.2.1.1 - n + j)).2.2.2.1 ((fr (nf - 1)).2.2.1.2 ((fr (nf - 1)).2.2.1.1 - n + k)).2.2.2.1)
    (h8 : E.2.2.1 u' f' = true → E.2.2.1 (fr (nf - 1)).1.1 (fr (nf - 1)).1.2.1 = true ∧ ∀ s, RfA fr nf (nf - 1) s → ∀ b, 48 ≤ b → ob s.2.2.2.1 b = false) :
    MJ0 E H m ty (setF (setF fr (nf - 1) (((fr (nf - 1)).1.1, (fr (nf - 1)).1.2.1, nx), (fr (nf - 1)).2.1, ((fr (nf - 1)).2.2.1.1 - n, (fr (nf - 1)).2.2.1.2), fun k => if k < n ∧ ((fr (nf - 1)).2.2.1.2 ((fr (nf - 1)).2.2.1.1 - n + k)).2.1 ≠ 0 then some ((fr (nf - 1)).2.2.1.2 ((fr (nf - 1)).2.2.1.1 - n + k)) else none)) nf ((u', f', 0), (fun k => if k < n then some (ps k) else none), (0, fun _ => (0, 0, 0, 0, false)), fun _ => none)) (nf + 1) na ak (fun _ => none) := by
  have hnf := I.nf0
  have top : nf - 1 < nf := by omega
  have sl0 := I.sl
  have g0 := I.g0
  obtain ⟨J, ht, sl, hh, hk, hg, _⟩ := I
  generalize eT : fr (nf - 1) = T at *
  obtain ⟨⟨u, f, nx0⟩, loc, ⟨h, st⟩, gh0⟩ := T
  simp only at *
  generalize eA : (((u, f, nx), loc, (h - n, st), fun k => if k < n ∧ (st (h - n + k)).2.1 ≠ 0 then some (st (h - n + k)) else none) : Fm) = A
  generalize eB : (((u', f', 0), (fun k => if k < n then some (ps k) else none), (0, fun _ => (0, 0, 0, 0, false)), fun _ => none) : Fm) = B
  have fo : ∀ e, e ≠ nf - 1 → e ≠ nf → setF (setF fr (nf - 1) A) nf B e = fr e := fun e q q' => by rw [setF_n q', setF_n q]
  have fA : setF (setF fr (nf - 1) A) nf B (nf - 1) = A := by rw [setF_n (by omega), setF_s]
  have fB : setF (setF fr (nf - 1) A) nf B nf = B := setF_s _ _ _
  generalize setF (setF fr (nf - 1) A) nf B = fr' at fo fA fB
  have a1 : A.1.1 = u := by rw [← eA]
  have a2 : A.1.2.1 = f := by rw [← eA]
  have a3 : A.2.1 = loc := by rw [← eA]
  have a4 : A.2.2.1 = (h - n, st) := by rw [← eA]
  have a5 : ∀ k, A.2.2.2 k = if k < n ∧ (st (h - n + k)).2.1 ≠ 0 then some (st (h - n + k)) else none := fun k => by rw [← eA]
  have b1 : B.1.1 = u' := by rw [← eB]
  have b2 : B.1.2.1 = f' := by rw [← eB]
  have b3 : ∀ k, B.2.1 k = if k < n then some (ps k) else none := fun k => by rw [← eB]
  have b4 : B.2.2.1.1 = 0 := by rw [← eB]
  have b5 : ∀ k, B.2.2.2 k = none := fun k => by rw [← eB]
  clear eA eB
  have e10 : (fr (nf - 1)).2.2.1.1 = h := by rw [eT]
  have e11 : (fr (nf - 1)).2.2.1.2 = st := by rw [eT]
  have e12 : (fr (nf - 1)).2.1 = loc := by rw [eT]
  have J1 : BInv H (LvA fr' (nf + 1) na ak (fun _ => none)) (RfA fr nf) (ghA fr nf) (rsA E fr nf) (rbA E fr ak) := by
    refine J.relay (fun a d k => if a = 0 ∧ d = nf - 1 ∧ h - n ≤ k then (1, nf, k - (h - n)) else (a, d, k)) (fun a d k X q => ?_) (fun a d k X c q => ?_)
    · have a4' := lv4 q
      by_cases c0 : a = 0
      · subst c0
        rw [lv0] at q
        by_cases cd : d < nf + 1 ∧ k < (fr' d).2.2.1.1
        · rw [if_pos cd] at q
          by_cases c1 : d = nf
          · rw [c1, fB, b4] at cd; exact absurd cd.2 (by omega)
          · by_cases c2 : d = nf - 1
            · rw [c2, fA, a4] at cd q
              simp only at cd q
              refine ⟨0, nf - 1, k, by rw [lv0, if_pos ⟨top, by rw [e10]; omega⟩, e11]; exact q, ?_⟩
              rw [if_neg (by omega), c2]
            · rw [fo d c2 c1] at cd q
              refine ⟨0, d, k, by rw [lv0, if_pos ⟨by omega, cd.2⟩]; exact q, if_neg (by omega)⟩
        · rw [if_neg cd] at q; exact absurd q (by simp)
      · by_cases c1 : a = 1
        · subst c1
          rw [lv1] at q
          by_cases cd : d < nf + 1
          · rw [if_pos cd] at q
            by_cases c1 : d = nf
            · rw [c1, fB, b3] at q
              by_cases ck : k < n
              · rw [if_pos ck, Option.bind_some] at q
                obtain ⟨p1, p2⟩ := pln_e q
                obtain ⟨q1, q2, _, _⟩ := hp k ck
                refine ⟨0, nf - 1, h - n + k, ?_, ?_⟩
                · rw [lv0, if_pos ⟨top, by rw [e10]; omega⟩, e11, pln0 (by rw [← q2]; exact p1), ← q1, p2]
                · rw [if_pos ⟨rfl, rfl, by omega⟩, c1, show h - n + k - (h - n) = k by omega]
              · rw [if_neg ck] at q; exact absurd q (by simp)
            · by_cases c2 : d = nf - 1
              · rw [c2, fA, a3] at q
                exact ⟨1, nf - 1, k, by rw [lv1, if_pos top, e12]; exact q, by rw [if_neg (by omega), c2]⟩
              · rw [fo d c2 c1] at q
                exact ⟨1, d, k, by rw [lv1, if_pos (by omega)]; exact q, if_neg (by omega)⟩
          · rw [if_neg cd] at q; exact absurd q (by simp)
        · by_cases c2 : a = 2
          · subst c2
            exact ⟨2, d, k, q, if_neg (by omega)⟩
          · have : a = 3 := by omega
            subst this
            rw [lv3] at q
            split at q <;> exact absurd q (by simp)
    · left
      rcases c with c | c
      · subst c
        rw [lv1] at q ⊢
        by_cases cd : d < nf
        · rw [if_pos cd] at q
          rw [if_pos (by omega)]
          by_cases c2 : d = nf - 1
          · rw [c2, fA, a3, ← e12, ← c2]; exact q
          · rw [fo d c2 (by omega)]; exact q
        · rw [if_neg cd] at q; exact absurd q (by simp)
      · subst c; exact q
  have J2 : BInv H (LvA fr' (nf + 1) na ak (fun _ => none)) (RfA fr nf) (ghA fr nf) (rsA E fr nf) (rbA E fr' ak) := by
    refine J1.rb (fun d s q j X _ => ?_)
    unfold rbA
    have := q.1
    by_cases c2 : d = nf - 1
    · rw [c2, fA, a1, eT]
    · rw [fo d c2 (by omega)]
  have rf1 : ∀ s, RfA fr' (nf + 1) (nf - 1) s ↔ RfA fr nf (nf - 1) s := by
    intro s
    unfold RfA
    rw [fA, a4, a3, e10, e11, e12]
    constructor
    · intro ⟨_, q2, q3⟩
      refine ⟨top, q2, ?_⟩
      rcases q3 with ⟨k, k1, k2⟩ | q | ⟨k, q⟩
      · simp only at k1 k2
        exact .inl ⟨k, by omega, k2⟩
      · exact .inr (.inl q)
      · rw [a5] at q
        by_cases c : k < n ∧ (st (h - n + k)).2.1 ≠ 0
        · rw [if_pos c] at q; cases q; exact .inl ⟨h - n + k, by omega, rfl⟩
        · rw [if_neg c] at q; exact absurd q (by simp)
    · intro ⟨_, q2, q3⟩
      refine ⟨by omega, q2, ?_⟩
      rcases q3 with ⟨k, k1, k2⟩ | q | ⟨k, q⟩
      · by_cases c : k < h - n
        · exact .inl ⟨k, c, k2⟩
        · right; right
          refine ⟨k - (h - n), ?_⟩
          have e : h - n + (k - (h - n)) = k := by omega
          rw [a5, e, if_pos ⟨by omega, by rw [k2]; exact q2⟩, k2]
      · exact .inr (.inl q)
      · have := hg k hnf
        rw [eT] at q
        simp only at q
        rw [this] at q
        exact absurd q (by simp)
  have rf2 : ∀ e s, e ≠ nf - 1 → e ≠ nf → (RfA fr' (nf + 1) e s ↔ RfA fr nf e s) := by
    intro e s c1 c2
    unfold RfA
    rw [fo e c1 c2]
    constructor
    · intro q; exact ⟨by have := q.1; omega, q.2⟩
    · intro q; exact ⟨by have := q.1; omega, q.2⟩
  have gA : ∀ k, ghA fr' (nf + 1) (nf - 1) k = if k < n ∧ (st (h - n + k)).2.1 ≠ 0 then some (st (h - n + k)) else none := fun k => by rw [ghA, if_pos (by omega), fA, a5]
  have gA' : ∀ {k g}, ghA fr' (nf + 1) (nf - 1) k = some g → k < n ∧ g = st (h - n + k) ∧ g.2.1 ≠ 0 := by
    intro k g q
    rw [gA] at q
    by_cases c : k < n ∧ (st (h - n + k)).2.1 ≠ 0
    · rw [if_pos c] at q; cases q; exact ⟨c.1, rfl, c.2⟩
    · rw [if_neg c] at q; exact absurd q (by simp)
  have en : nf - 1 + 1 = nf := by omega
  refine ⟨J2.call (nf - 1) (fun k => ?_) (by simp [rsA]; omega) (fun s q => ?_) (fun e k q => ?_) (fun e q => ?_) (fun e s q => ?_) (fun k g q => ?_) (fun k g q h9 s hs => ?_) (fun k j g g' q q' hj h9 => ?_) (fun q => ?_) (fun s q => ?_), ht, fun d hd' => ?_, fun k x q => absurd q (by simp), hk, fun k _ => ?_, by omega⟩
  · rw [ghA, if_neg (by omega)]
  · have := q.1; omega
  · unfold ghA
    by_cases c : e = nf
    · rw [c, if_pos (by omega), if_neg (by omega), fB, b5]
    · by_cases c2 : e < nf
      · rw [if_pos (by omega), if_pos c2, fo e q c]
      · rw [if_neg (by omega), if_neg c2]
  · rw [en] at q
    unfold rsA
    by_cases c2 : e < nf
    · by_cases c3 : e = nf - 1
      · rw [c3, fA, a1, a2, eT]
        simp only
        rw [decide_eq_true (by omega : nf - 1 < nf + 1), decide_eq_true top]
      · rw [fo e c3 q, decide_eq_true (by omega : e < nf + 1), decide_eq_true c2]
    · rw [decide_eq_false (by omega : ¬ e < nf + 1), decide_eq_false c2]; rfl
  · rw [en] at q
    by_cases c : e = nf - 1
    · rw [c]; exact rf1 s
    · exact rf2 e s c q
  · obtain ⟨c1, c2, c3⟩ := gA' q
    refine ⟨by omega, top, c3, .inl ⟨h - n + k, by rw [e10]; omega, by rw [e11, c2]⟩⟩
  · obtain ⟨c1, c2, c3⟩ := gA' q
    subst c2
    obtain ⟨p1, p2⟩ := h6 k c1 h9
    obtain ⟨_, s2, s3⟩ := hs
    rw [e10, e11, e12] at s3
    rcases s3 with ⟨j, j1, j2⟩ | s3 | ⟨j, s3⟩
    · by_cases c : j < h - n
      · exact .inr (p1 s s2 (.inl ⟨j, c, j2⟩))
      · by_cases c4 : j = h - n + k
        · left; rw [← j2, c4]
        · right
          intro hm
          have e : h - n + (j - (h - n)) = j := by omega
          have := p2 (j - (h - n)) (by omega) (by omega) (by rw [e, j2]; exact s2)
          rw [e, j2] at this
          exact absurd hm this
    · exact .inr (p1 s s2 (.inr s3))
    · rw [eT] at s3
      simp only at s3
      rw [hg j hnf] at s3
      exact absurd s3 (by simp)
  · obtain ⟨c1, c2, c3⟩ := gA' q
    obtain ⟨d1, d2, d3⟩ := gA' q'
    subst c2 d2
    exact (h6 k c1 h9).2 j d1 hj d3
  · rw [en] at q
    unfold rsA at q
    rw [fB, b1, b2, decide_eq_true (by omega : nf < nf + 1), Bool.true_and] at q
    obtain ⟨p1, p2⟩ := h8 q
    refine ⟨?_, p2⟩
    unfold rsA
    rw [eT, decide_eq_true top]
    exact p1
  · rw [en] at q
    obtain ⟨_, q2, q3⟩ := q
    rw [fB] at q3
    rcases q3 with ⟨k, k1, _⟩ | ⟨k, q⟩ | ⟨k, q⟩
    · rw [b4] at k1; omega
    · rw [b3] at q
      by_cases c : k < n
      · rw [if_pos c] at q; cases q
        obtain ⟨q1, q4, _, q5⟩ := hp k c
        refine ⟨k, st (h - n + k), ?_, q1, q4, q5 q2⟩
        rw [gA, if_pos ⟨c, by rw [← q4]; exact q2⟩]
      · rw [if_neg c] at q; exact absurd q (by simp)
    · rw [b5] at q; exact absurd q (by simp)
  · by_cases c : d = nf
    · rw [c, fB, b4]
      refine ⟨fun k q => absurd q (by omega), fun k s q => ?_, fun k s q => by rw [b5] at q; exact absurd q (by simp)⟩
      rw [b3] at q
      by_cases ck : k < n
      · rw [if_pos ck] at q; cases q
        obtain ⟨q1, q2, q3, _⟩ := hp k ck
        obtain ⟨p1, p2, p3⟩ := sl0.1 (h - n + k) (by omega)
        exact ⟨by omega, by rw [q1]; exact p1, by rw [q1, q3]; exact p2, by rw [q2]; exact p3⟩
      · rw [if_neg ck] at q; exact absurd q (by simp)
    · by_cases c2 : d = nf - 1
      · rw [c2, fA, a3, a4]
        refine ⟨fun k q => sl0.1 k (by simp only at q; omega), sl0.2, fun k s q => ?_⟩
        rw [a5] at q
        by_cases ck : k < n ∧ (st (h - n + k)).2.1 ≠ 0
        · rw [if_pos ck] at q; cases q; exact ⟨ck.2, sl0.1 _ (by omega)⟩
        · rw [if_neg ck] at q; exact absurd q (by simp)
      · rw [fo d c2 c]; exact sl d (by omega)
  · rw [show nf + 1 - 1 = nf by omega, fB, b5]
end
