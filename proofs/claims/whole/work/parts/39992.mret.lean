/-! THE MACHINE'S STATE: returns -/
section
variable {E : Ev} {H : Hp} {m : Nat} {ty : Nat → Nat} {fr : Nat → Fm} {nf na : Nat} {ak : Nat → Ask} {hd : Nat → Option Nat}
/-- a return: the slots of the topmost frame come onto the stack of the one below -/
theorem MJ0.ret (I : MJ0 E H m ty fr nf na ak (fun _ => none)) (h2 : 2 ≤ nf) {nx : Nat} (rl : Nat → Sl)
    (hp : ∀ k, k < (fr (nf - 1)).2.2.1.1 → (rl k).1 = ((fr (nf - 1)).2.2.1.2 k).1 ∧ (rl k).2.1 = ((fr (nf - 1)).2.2.1.2 k).2.1 ∧ (rl k).2.2.1 = ((fr (nf - 1)).2.2.1.2 k).2.2.1 ∧ ((rl k).2.1 ≠ 0 → (rl k).2.2.2.2 = true ∧ (∀ b, ob ((fr (nf - 1)).2.2.1.2 k).2.2.2.1 b = true → 40 ≤ b ∧ b < 48) ∧ ∀ j g, (fr (nf - 2)).2.2.2 j = some g → ((rl k).2.1 = 9 → g.2.1 = 9) → ∀ b, ob g.2.2.2.1 b = true → ob (rl k).2.2.2.1 b = true)) :
    MJ0 E H m ty (setF fr (nf - 2) (((fr (nf - 2)).1.1, (fr (nf - 2)).1.2.1, nx), (fr (nf - 2)).2.1, ((fr (nf - 2)).2.2.1.1 + (fr (nf - 1)).2.2.1.1, fun k => if k < (fr (nf - 2)).2.2.1.1 then (fr (nf - 2)).2.2.1.2 k else rl (k - (fr (nf - 2)).2.2.1.1)), fun _ => none)) (nf - 1) na ak (fun _ => none) := by
  have top : nf - 1 < nf := by omega
  have tp2 : nf - 2 < nf := by omega
  have sl0 := I.sl
  obtain ⟨J, ht, sl, hh, hk, hg, _⟩ := I
  generalize eT : fr (nf - 1) = T at *
  obtain ⟨⟨u, f, nx0⟩, loc, ⟨h, st⟩, gh0⟩ := T
  generalize eC : fr (nf - 2) = C at *
  obtain ⟨⟨u', f', nx1⟩, loc', ⟨h', st'⟩, gh'⟩ := C
  simp only at *
  generalize eA : (((u', f', nx), loc', (h' + h, fun k => if k < h' then st' k else rl (k - h')), fun _ => none) : Fm) = A
  have fo : ∀ e, e ≠ nf - 2 → setF fr (nf - 2) A e = fr e := fun e q => setF_n q
  have fA : setF fr (nf - 2) A (nf - 2) = A := setF_s _ _ _
  generalize setF fr (nf - 2) A = fr' at fo fA
  have a1 : A.1.1 = u' := by rw [← eA]
  have a2 : A.1.2.1 = f' := by rw [← eA]
  have a3 : A.2.1 = loc' := by rw [← eA]
  have a4 : A.2.2.1.1 = h' + h := by rw [← eA]
  have a6 : ∀ k, A.2.2.1.2 k = if k < h' then st' k else rl (k - h') := fun k => by rw [← eA]
  have a5 : ∀ k, A.2.2.2 k = none := fun k => by rw [← eA]
  clear eA
  have slc := sl (nf - 2) tp2
  rw [eC] at slc
  simp only at slc
  have e1' : nf - 2 + 1 = nf - 1 := by omega
  have hmap := J.map (Lv' := LvA fr' (nf - 1) na ak (fun _ => none)) (fun a d k => if a = 0 ∧ d = nf - 1 then (0, nf - 2, h' + k) else (a, d, k)) (by
    intro a d k X q
    have a4' := lv4 q
    by_cases c0 : a = 0
    · subst c0
      rw [lv0] at q
      by_cases cd : d < nf - 1 ∧ k < (fr' d).2.2.1.1
      · rw [if_pos cd] at q
        by_cases c2 : d = nf - 2
        · rw [c2, fA, a4] at cd
          rw [c2, fA, a6] at q
          by_cases ck : k < h'
          · rw [if_pos ck] at q
            exact ⟨0, nf - 2, k, by rw [lv0, eC, if_pos ⟨tp2, ck⟩]; exact q, by rw [if_neg (by omega), c2]⟩
          · rw [if_neg ck] at q
            obtain ⟨p1, p2⟩ := pln_e q
            obtain ⟨q1, q2, _, _⟩ := hp (k - h') (by omega)
            refine ⟨0, nf - 1, k - h', ?_, ?_⟩
            · rw [lv0, eT, if_pos ⟨top, by simp only; omega⟩, pln0 (by rw [← q2]; exact p1), ← q1, p2]
            · rw [if_pos ⟨rfl, rfl⟩, c2, show h' + (k - h') = k by omega]
        · rw [fo d c2] at cd q
          exact ⟨0, d, k, by rw [lv0, if_pos ⟨by omega, cd.2⟩]; exact q, if_neg (by omega)⟩
      · rw [if_neg cd] at q; exact absurd q (by simp)
    · by_cases c1 : a = 1
      · subst c1
        rw [lv1] at q
        by_cases cd : d < nf - 1
        · rw [if_pos cd] at q
          refine ⟨1, d, k, ?_, if_neg (by omega)⟩
          rw [lv1, if_pos (by omega)]
          by_cases c2 : d = nf - 2
          · rw [c2, fA, a3] at q
            rw [c2, eC]; exact q
          · rw [fo d c2] at q; exact q
        · rw [if_neg cd] at q; exact absurd q (by simp)
      · by_cases c2 : a = 2
        · subst c2; exact ⟨2, d, k, q, if_neg (by omega)⟩
        · have : a = 3 := by omega
          subst this
          rw [lv3] at q
          split at q <;> exact absurd q (by simp))
  have erb : rbA E fr' ak = rbA E fr ak := by
    funext d j
    unfold rbA
    by_cases c : d = nf - 2
    · rw [c, fA, a1, eC]
    · rw [fo d c]
  have ghC : ∀ k, ghA fr nf (nf - 2) k = gh' k := fun k => by rw [ghA, if_pos tp2, eC]
  refine ⟨?_, ht, fun d hd' => ?_, fun k x q => absurd q (by simp), hk, fun k _ => by rw [show nf - 1 - 1 = nf - 2 by omega, fA, a5], by omega⟩
  · rw [erb]
    refine J.ret (nf - 2) (by simp [rsA]; omega) hmap.1 hmap.2 (fun a e k X h0 h1 q => ?_) (fun e k q => ?_) (fun e k q => ?_) (fun k => ?_) (fun e q => ?_) ?_ (fun e s q => ?_) (fun e s q p => ?_) (fun s q => ?_)
    · have a4' := lv4 q
      by_cases c1 : a = 1
      · subst c1
        have he := h1 rfl
        rw [lv1, if_pos (by omega)] at q
        rw [lv1, if_pos (by omega)]
        by_cases c2 : e = nf - 2
        · rw [c2, fA, a3]; rw [c2, eC] at q; exact q
        · rw [fo e c2]; exact q
      · by_cases c2 : a = 2
        · subst c2; exact q
        · have : a = 3 := by omega
          subst this
          exact q
    · unfold ghA
      rw [fo e q]
      by_cases c : e < nf - 1
      · rw [if_pos c, if_pos (by omega)]
      · rw [if_neg c]
        by_cases c2 : e < nf
        · rw [if_pos c2, show e = nf - 1 by omega, eT]
          exact (hg k (by omega)).symm
        · rw [if_neg c2]
    · unfold ghA
      by_cases c2 : e < nf
      · rw [if_pos c2, show e = nf - 1 by omega, eT]
        exact hg k (by omega)
      · rw [if_neg c2]
    · rw [ghA, if_pos (by omega), fA, a5]
    · rw [e1'] at q
      unfold rsA
      by_cases c2 : e < nf - 1
      · by_cases c3 : e = nf - 2
        · rw [c3, fA, a1, a2, eC]
          simp only
          rw [decide_eq_true (by omega : nf - 2 < nf - 1), decide_eq_true tp2]
        · rw [fo e c3, decide_eq_true c2, decide_eq_true (by omega : e < nf)]
      · rw [decide_eq_false c2, decide_eq_false (by omega : ¬ e < nf)]; rfl
    · rw [e1']; simp [rsA]
    · unfold RfA
      rw [fo e (by omega)]
      constructor
      · intro p; exact ⟨by omega, p.2⟩
      · intro p; exact ⟨by omega, p.2⟩
    · have := p.1; omega
    · obtain ⟨_, q2, q3⟩ := q
      rw [fA, a4, a3] at q3
      rcases q3 with ⟨k, k1, k2⟩ | ⟨k, q⟩ | ⟨k, q⟩
      · rw [a6] at k2
        by_cases c : k < h'
        · rw [if_pos c] at k2
          exact .inl ⟨tp2, q2, .inl ⟨k, by rw [eC]; exact c, by rw [eC]; exact k2⟩⟩
        · rw [if_neg c] at k2
          right
          obtain ⟨q1, q4, _, q5⟩ := hp (k - h') (by omega)
          rw [k2] at q1 q4 q5
          obtain ⟨r1, r2, r3⟩ := q5 q2
          refine ⟨st (k - h'), ⟨by rw [e1']; exact top, by rw [← q4]; exact q2, .inl ⟨k - h', by rw [e1', eT]; simp only; omega, by rw [e1', eT]⟩⟩, q1.symm, q4.symm, r1, r2, fun j g hj => ?_⟩
          rw [ghC] at hj
          exact r3 j g hj
      · exact .inl ⟨tp2, q2, .inr (.inl ⟨k, by rw [eC]; exact q⟩)⟩
      · rw [a5] at q; exact absurd q (by simp)
  · by_cases c : d = nf - 2
    · rw [c, fA, a4, a3]
      refine ⟨fun k q => ?_, slc.2.1, fun k s q => by rw [a5] at q; exact absurd q (by simp)⟩
      rw [a6]
      by_cases ck : k < h'
      · rw [if_pos ck]; exact slc.1 k ck
      · rw [if_neg ck]
        obtain ⟨q1, q2, q3, _⟩ := hp (k - h') (by omega)
        obtain ⟨p1, p2, p3⟩ := sl0.1 (k - h') (by omega)
        exact ⟨by rw [q1]; exact p1, by rw [q1, q3]; exact p2, by rw [q2]; exact p3⟩
    · rw [fo d c]; exact sl d (by omega)
end
