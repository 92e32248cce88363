/-! CLASS AND REFERENCE: new nodes, one by one -/
section
variable {E : Ev} {H : Hp} {m : Nat} {ty phi : Nat → Nat} {Rn : Nat → Option Nat} {Hc : Hp} {z : St} {u : Nat} {s : Int32}
theorem RC.node (r : RC H ty phi Rn Hc) (ht : HT E H m ty) (hu : ∀ i, (Hc i).1 ≠ 0 → i < u) (hRn : ∀ j t, Rn j = some t → t < m) {cs : List Nat} {t k : Nat} {hi lo x y : Int64} (hcs : ∀ c, c ∈ cs → c < m) (h256 : t ≠ 256) (h11 : t ≠ 11) (hk : k ≠ 0) (hl : ¬ inn k → x = hi ∧ y = lo) : RC (upH H m (k, hi, lo, cs)) (fun i => if i = m then t else ty i) (fun i => if i = m then u else phi i) Rn (upH Hc u (k, x, y, (cs.map phi).reverse)) := by
  have hlt : ∀ v, (H v).1 ≠ 0 → v < m := fun v q => (ht.2 v q).1
  have pne : ∀ v, (H v).1 ≠ 0 → ty v ≠ 11 → phi v ≠ u := fun v a b e => by have := hu _ (r.al a b); omega
  have mphi : ∀ l : List Nat, (∀ c, c ∈ l → c < m) → l.map (fun i => if i = m then u else phi i) = l.map phi := fun l h => List.map_congr_left (fun c hc => by rw [if_neg (by have := h c hc; omega)])
  have ek : ∀ v, v ≠ m → kds (upH H m (k, hi, lo, cs)) v = kds H v := fun v q => by unfold kds; rw [upH_n q]
  have em : kds (upH H m (k, hi, lo, cs)) m = cs := by unfold kds; rw [upH_s]
  have alv : ∀ v, v ≠ m → ((upH H m (k, hi, lo, cs)) v) = H v := fun v q => upH_n q
  refine ⟨fun v hv h => ?_, fun v w hv h hw h' e => ?_, fun w x' q => ?_, fun w q => ?_⟩
  · by_cases c : v = m
    · subst c
      simp only [if_true] at h ⊢
      rw [upH_s]
      refine .inr ⟨by simp only [if_true]; exact h256, by rw [upH_s], ?_, fun q => by rw [upH_s] at q ⊢; exact hl q⟩
      rw [em, mphi cs hcs]
    · simp only [if_neg c] at h ⊢
      rw [alv v c] at hv
      rw [upH_n (pne v hv h)]
      rcases r.1 v hv h with ⟨c1, c2, c3, ⟨a, c4, c6⟩, c5⟩ | ⟨c1, c2, c3, c4⟩
      · refine .inl ⟨by simp only [if_neg c]; exact c1, c2, c3, ⟨a, by rw [ek v c]; exact c4, ?_⟩, c5⟩
        have := hlt a ((ht.2 v hv).2.2.1 a (by rw [c4]; simp))
        rw [alv a (by omega)]; exact c6
      · refine .inr ⟨by simp only [if_neg c]; exact c1, by rw [alv v c]; exact c2, ?_, by rw [alv v c]; exact c4⟩
        rw [ek v c, mphi _ (fun a ha => hlt a ((ht.2 v hv).2.2.1 a ha))]; exact c3
  · by_cases c : v = m
    · by_cases c' : w = m
      · rw [c, c']
      · simp only [if_pos c, if_neg c'] at e
        rw [alv w c'] at hw
        simp only [if_neg c'] at h'
        exact absurd e.symm (pne w hw h')
    · by_cases c' : w = m
      · simp only [if_neg c, if_pos c'] at e
        rw [alv v c] at hv
        simp only [if_neg c] at h
        exact absurd e (pne v hv h)
      · simp only [if_neg c, if_neg c'] at e h h'
        rw [alv v c] at hv
        rw [alv w c'] at hw
        exact r.2.1 v w hv h hw h' e
  · obtain ⟨q1, q2⟩ := r.2.2.1 w x' q
    have wu : w < u := hu w (by rw [q1]; simp)
    have := hRn w x' q
    refine ⟨by rw [upH_n (by omega)]; simp only [if_neg (show x' ≠ m by omega)]; exact q1, fun v hv h => ?_⟩
    by_cases c : v = m
    · simp only [if_pos c]; omega
    · simp only [if_neg c] at h ⊢
      rw [alv v c] at hv
      exact q2 v hv h
  · by_cases c : w = u
    · exact .inl ⟨m, by rw [upH_s]; exact hk, by simp only [if_true]; exact h11, by simp [c]⟩
    · rw [upH_n c] at q
      rcases r.2.2.2 w q with ⟨v, v1, v2, v3⟩ | h
      · have := hlt v v1
        exact .inl ⟨v, by rw [alv v (by omega)]; exact v1, by simp only [if_neg (show v ≠ m by omega)]; exact v2, by simp only [if_neg (show v ≠ m by omega)]; exact v3⟩
      · exact .inr h
/-- a coin: two nodes there, one here -/
theorem RC.coin (r : RC H ty phi Rn Hc) (ht : HT E H m ty) (hu : ∀ i, (Hc i).1 ≠ 0 → i < u) (hRn : ∀ j t, Rn j = some t → t < m) {v0 : Int64} : RC (upH (upH H m (6, 0, 0, [m + 1])) (m + 1) (3, 0, v0, [])) (fun i => if i = m then 256 else if i = m + 1 then 11 else ty i) (fun i => if i = m then u else phi i) Rn (upH Hc u (10, 0, v0, [])) := by
  have hlt : ∀ v, (H v).1 ≠ 0 → v < m := fun v q => (ht.2 v q).1
  have pne : ∀ v, (H v).1 ≠ 0 → ty v ≠ 11 → phi v ≠ u := fun v a b e => by have := hu _ (r.al a b); omega
  have mphi : ∀ l : List Nat, (∀ c, c ∈ l → c < m) → l.map (fun i => if i = m then u else phi i) = l.map phi := fun l h => List.map_congr_left (fun c hc => by rw [if_neg (by have := h c hc; omega)])
  have alv : ∀ v, v ≠ m → v ≠ m + 1 → ((upH (upH H m (6, 0, 0, [m + 1])) (m + 1) (3, 0, v0, [])) v) = H v := fun v q q' => by rw [upH_n q', upH_n q]
  have hm : (upH (upH H m (6, 0, 0, [m + 1])) (m + 1) (3, 0, v0, [])) m = (6, 0, 0, [m + 1]) := by rw [upH_n (by omega), upH_s]
  have hm1 : (upH (upH H m (6, 0, 0, [m + 1])) (m + 1) (3, 0, v0, [])) (m + 1) = (3, 0, v0, []) := upH_s _ _ _
  have cas : ∀ v, ((upH (upH H m (6, 0, 0, [m + 1])) (m + 1) (3, 0, v0, [])) v).1 ≠ 0 → (if v = m then 256 else if v = m + 1 then 11 else ty v) ≠ 11 → v = m ∨ (v ≠ m ∧ v ≠ m + 1 ∧ (H v).1 ≠ 0 ∧ ty v ≠ 11) := fun v q q' => by
    by_cases c : v = m
    · exact .inl c
    · rw [if_neg c] at q'
      by_cases d : v = m + 1
      · rw [if_pos d] at q'; exact absurd rfl q'
      · rw [if_neg d] at q'
        rw [alv v c d] at q
        exact .inr ⟨c, d, q, q'⟩
  refine ⟨fun v hv h => ?_, fun v w hv h hw h' e => ?_, fun w x' q => ?_, fun w q => ?_⟩
  · rcases cas v hv h with c | ⟨c, d, v1, v2⟩
    · subst c
      simp only [if_true]
      rw [upH_s]
      refine .inl ⟨by simp only [if_true], rfl, rfl, ⟨v + 1, by unfold kds; rw [hm], by rw [hm1]⟩, rfl⟩
    · simp only [if_neg c]
      rw [upH_n (pne v v1 v2)]
      have ek : kds (upH (upH H m (6, 0, 0, [m + 1])) (m + 1) (3, 0, v0, [])) v = kds H v := by unfold kds; rw [alv v c d]
      rcases r.1 v v1 v2 with ⟨c1, c2, c3, ⟨a, c4, c6⟩, c5⟩ | ⟨c1, c2, c3, c4⟩
      · refine .inl ⟨by simp only [if_neg c, if_neg d]; exact c1, c2, c3, ⟨a, by rw [ek]; exact c4, ?_⟩, c5⟩
        have := hlt a ((ht.2 v v1).2.2.1 a (by rw [c4]; simp))
        rw [alv a (by omega) (by omega)]; exact c6
      · refine .inr ⟨by simp only [if_neg c, if_neg d]; exact c1, by rw [alv v c d]; exact c2, ?_, by rw [alv v c d]; exact c4⟩
        rw [ek, mphi _ (fun a ha => hlt a ((ht.2 v v1).2.2.1 a ha))]; exact c3
  · rcases cas v hv h with c | ⟨c, d, v1, v2⟩
    · rcases cas w hw h' with c' | ⟨c', d', w1, w2⟩
      · rw [c, c']
      · simp only [if_pos c, if_neg c'] at e
        exact absurd e.symm (pne w w1 w2)
    · rcases cas w hw h' with c' | ⟨c', d', w1, w2⟩
      · simp only [if_neg c, if_pos c'] at e
        exact absurd e (pne v v1 v2)
      · simp only [if_neg c, if_neg c'] at e
        exact r.2.1 v w v1 v2 w1 w2 e
  · obtain ⟨q1, q2⟩ := r.2.2.1 w x' q
    have wu : w < u := hu w (by rw [q1]; simp)
    have := hRn w x' q
    refine ⟨by rw [upH_n (by omega)]; simp only [if_neg (show x' ≠ m by omega)]; exact q1, fun v hv h => ?_⟩
    rcases cas v hv h with c | ⟨c, d, v1, v2⟩
    · simp only [if_pos c]; omega
    · simp only [if_neg c]
      exact q2 v v1 v2
  · by_cases c : w = u
    · exact .inl ⟨m, by rw [hm]; simp, by simp only [if_true]; decide, by simp [c]⟩
    · rw [upH_n c] at q
      rcases r.2.2.2 w q with ⟨v, v1, v2, v3⟩ | h
      · have := hlt v v1
        exact .inl ⟨v, by rw [alv v (by omega) (by omega)]; exact v1, by simp only [if_neg (show v ≠ m by omega), if_neg (show v ≠ m + 1 by omega)]; exact v2, by simp only [if_neg (show v ≠ m by omega)]; exact v3⟩
      · exact .inr h
end
/-- both machines at one point; e: how much room is to spare -/
def Sm (E : Ev) (sh : Nat → Nat × Nat) (n : Nat) (pk : Nat → Nat) (kt : Nat) (sl0 : Int32) (lim e : Nat) (zr zc : St) (H : Hp) (m : Nat) (ty : Nat → Nat) (fr : Nat → Fm) (nf na : Nat) (ak : Nat → Ask) (g : Nat) (Hc : Hp) (mc : Nat) (phi : Nat → Nat) (Rn : Nat → Option Nat) (cs cl : Nat → Nat → Nat) (cn : Nat → Nat) (ws : Nat → Int64 → Nat → Bool) : Prop := MJ E H m ty fr nf na ak (fun _ => none) ∧ RM sh n zr H m fr nf na ak g lim ∧ CM sh n zc pk kt Hc mc sl0 fr cs cl nf g lim ∧ CJ zc na ak cn ws ∧ RC H ty phi Rn Hc ∧ SRel phi Rn (Vs fr cs cl nf) ∧ (∀ j, j < na → (ak j).1 = 3 → (ak j).2.2.2.2.1 = true → cn j = phi (ak j).2.2.2.2.2) ∧ NoA ty H ∧ (∀ j t, Rn j = some t → t < m) ∧ m + e ≤ 8 + g + 64 * na ∧ mc + e ≤ 9 + g + 64 * na
section
variable {E : Ev} {F n : Nat} {sh : Nat → Nat × Nat} {pk : Nat → Nat} {kt : Nat} {sl0 : Int32} {lim e : Nat} {zr zc zr' zc' : St} {H : Hp} {m : Nat} {ty : Nat → Nat} {fr : Nat → Fm} {nf na : Nat} {ak : Nat → Ask} {g g' : Nat} {Hc : Hp} {mc : Nat} {phi : Nat → Nat} {Rn : Nat → Option Nat} {cs cl : Nat → Nat → Nat} {cn : Nat → Nat} {ws : Nat → Int64 → Nat → Bool}
/-- a slot's node is alive and below the next -/
theorem Sm.slot (h : Sm E sh n pk kt sl0 lim e zr zc H m ty fr nf na ak g Hc mc phi Rn cs cl cn ws) {a d k c : Nat} {s : Sl} (q : Vs fr cs cl nf a d k = some (s, c)) : (H s.1).1 ≠ 0 ∧ s.1 < m ∧ ty s.1 = s.2.2.1 := by
  obtain ⟨q1, q2⟩ := Vs_c q
  have t3 := h.1.2.2.1 d q1
  have st : SlT H ty s := by
    rcases q2 with ⟨_, a2, a3, _⟩ | ⟨_, a2, _⟩
    · rw [a3]; exact t3.1 k a2
    · exact (t3.2.1 k s a2).2
  exact ⟨st.1, (h.1.2.1.2 _ st.1).1, st.2.1⟩
theorem Sm.rooms (h : Sm E sh n pk kt sl0 lim e zr zc H m ty fr nf na ak g Hc mc phi Rn cs cl cn ws) : m + e ≤ 21544 ∧ mc + e ≤ 21545 := by
  have a := h.2.2.2.1.2.1
  obtain ⟨_, _, _, _, _, _, g2, g3⟩ := h.2.2.1
  have b := h.2.2.2.2.2.2.2.2.2
  omega
theorem Sm.hcu (h : Sm E sh n pk kt sl0 lim e zr zc H m ty fr nf na ak g Hc mc phi Rn cs cl cn ws) : ∀ i, (Hc i).1 ≠ 0 → i < mc := fun i q => (h.2.2.1.2.1.lt q).2.1
theorem Sm.ht (h : Sm E sh n pk kt sl0 lim e zr zc H m ty fr nf na ak g Hc mc phi Rn cs cl cn ws) : HT E H m ty := h.1.2.1
theorem Sm.nf0 (h : Sm E sh n pk kt sl0 lim e zr zc H m ty fr nf na ak g Hc mc phi Rn cs cl cn ws) : 0 < nf := h.2.2.1.2.2.1.2.1
theorem Sm.h64 (h : Sm E sh n pk kt sl0 lim e zr zc H m ty fr nf na ak g Hc mc phi Rn cs cl cn ws) : (fr (nf - 1)).2.2.1.1 ≤ 64 := (h.2.2.1.2.2.1.2.2.2 (nf - 1) (by have := h.nf0; omega)).1
/-- c values are taken, a new number is given -/
theorem Sm.num (h : Sm E sh n pk kt sl0 lim 1 zr zc H m ty fr nf na ak g Hc mc phi Rn cs cl cn ws) (hE : EvOk E) {c k : Nat} {x y : Int64} (hc : c ≤ (fr (nf - 1)).2.2.1.1) (hk : 1 ≤ k) (hk5 : k ≤ 5) (ht : LTm E k (k, x, y, []) []) (h38 : E.2.1 k ≤ 38) (hg : g ≤ g') (rm : RM sh n zr' (upH H m (k, x, y, [])) (m + 1) (setF fr (nf - 1) (pshV (setH (fr (nf - 1)) ((fr (nf - 1)).2.2.1.1 - c)) (m, 0, k, 0, false))) nf na ak g' lim) (cm : CM sh n zc' pk kt (upH Hc mc (k, x, y, [])) (mc + 1) sl0 (setF fr (nf - 1) (pshV (setH (fr (nf - 1)) ((fr (nf - 1)).2.2.1.1 - c)) (m, 0, k, 0, false))) (up2 cs (nf - 1) ((fr (nf - 1)).2.2.1.1 - c) mc) cl nf g' lim) (cj : CJ zc' na ak cn ws) : Sm E sh n pk kt sl0 lim 0 zr' zc' (upH H m (k, x, y, [])) (m + 1) (fun i => if i = m then k else ty i) (setF fr (nf - 1) (pshV (setH (fr (nf - 1)) ((fr (nf - 1)).2.2.1.1 - c)) (m, 0, k, 0, false))) nf na ak g' (upH Hc mc (k, x, y, [])) (mc + 1) (fun i => if i = m then mc else phi i) Rn (up2 cs (nf - 1) ((fr (nf - 1)).2.2.1.1 - c) mc) cl cn ws := by
  have h' := h
  obtain ⟨I, _, _, _, r, sr, an, na2, rn, rm1, rm2⟩ := h
  refine ⟨I.num hE c ht h38 (by omega), rm, cm, cj, ?_, ?_, ?_, ?_, fun j t q => by have := rn j t q; omega, by omega, by omega⟩
  · exact r.node I.2.1 h'.hcu rn (cs := []) (fun c q => absurd q (by simp)) (by omega) (by omega) (by omega) (fun _ => ⟨rfl, rfl⟩)
  · refine sr.psh h'.nf0 (by omega) (fun a d k t c q _ _ => ?_) ⟨fun _ => by simp, fun q => absurd rfl q⟩ (fun q => absurd rfl q)
    have hs := h'.slot q
    have sl := sr.1 _ _ _ _ _ q
    exact ⟨fun z => by simp only [if_neg (show t.1 ≠ m by omega)]; exact sl.1 z, sl.2⟩
  · intro j hj h3 ht2
    have := (I.2.2.2.2.1 j hj h3 ht2).1
    have hl := (I.2.1.2 _ this).1
    simp only [if_neg (show (ak j).2.2.2.2.2 ≠ m by omega)]
    exact an j hj h3 ht2
  · intro v hv
    by_cases c : v = m
    · simp only [if_pos c]; omega
    · simp only [if_neg c]
      rw [upH_n c] at hv
      exact na2 v hv
end
