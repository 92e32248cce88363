/-! CLASS AND REFERENCE: new trees on both sides -/
theorem HC.prune {z : St} {H : Hp} {u : Nat} {s : Int32} (h : HC z H u s) (P : Nat → Prop) (hP : ∀ i, P i → (H i).1 ≠ 0 → ∀ c, c ∈ kds H i → P c) : ∃ Hn : Hp, HC z Hn u s ∧ (∀ i, P i → Hn i = H i) ∧ ∀ i, ¬ P i → Hn i = (0, 0, 0, []) := by
  refine ⟨fun i => @ite _ (P i) (Classical.propDecidable _) (H i) (0, 0, 0, []), ?_, fun i q => if_pos q, fun i q => if_neg q⟩
  refine ⟨h.1, h.2.1, h.2.2.1, h.2.2.2.1, fun i q => ?_⟩
  by_cases p : P i
  · simp only [if_pos p] at q ⊢
    obtain ⟨a, b, c, d, e⟩ := h.2.2.2.2 i q
    refine ⟨a, b, c, d, fun x hx => ?_⟩
    simp only [if_pos (hP i p q x hx)]
    exact e x hx
  · simp only [if_neg p] at q; exact absurd rfl q
def Img (H : Hp) (ty phi : Nat → Nat) (Rn : Nat → Option Nat) (j : Nat) : Prop := (∃ v, (H v).1 ≠ 0 ∧ ty v ≠ 11 ∧ phi v = j) ∨ ∃ t, Rn j = some t
/-- a tree's block: each node but the first is a part of one before it -/
def Blk (H : Hp) (w u : Nat) : Prop := (∀ i, w < i → i < u → ∃ j, w ≤ j ∧ j < i ∧ i ∈ kds H j) ∧ (∀ i j c, w ≤ i → i < u → w ≤ j → j < u → c ∈ kds H i → c ∈ kds H j → i = j) ∧ (∀ i c, w ≤ i → i < u → c ∈ kds H i → i < c ∧ c < u) ∧ ∀ i, w ≤ i → i < u → (kds H i).Nodup
/-- how a new node of the class answers to one of the reference -/
def NdM (H : Hp) (ty : Nat → Nat) (Hc : Hp) (M : Nat → Nat → Prop) (i j : Nat) : Prop := (ty i = 256 ∧ (Hc j).1 = 10 ∧ (Hc j).2.1 = 0 ∧ (∃ c, kds H i = [c] ∧ (Hc j).2.2.1 = (H c).2.2.1) ∧ (Hc j).2.2.2 = []) ∨ (ty i ≠ 256 ∧ (Hc j).1 = (H i).1 ∧ (¬ inn (H i).1 → (Hc j).2.1 = (H i).2.1 ∧ (Hc j).2.2.1 = (H i).2.2.1) ∧ (kds Hc j).length = (kds H i).length ∧ ∀ (t c x : Nat), (kds H i)[t]? = some c → (kds Hc j).reverse[t]? = some x → M c x)
theorem ext_map {H : Hp} {ty : Nat → Nat} {Hc : Hp} {w u' u u'' : Nat} (b : Blk H w u') (hlt : w < u') (na : ∀ i, w ≤ i → i < u' → ty i ≠ 256 → ∀ c, c ∈ kds H i → ty c ≠ 11) (co : ∀ i, w ≤ i → i < u' → ty i = 256 → ∀ c, c ∈ kds H i → ty c = 11) (l11 : ∀ i, w ≤ i → i < u' → ty i = 11 → kds H i = []) {M : Nat → Nat → Prop} (hM0 : M w u) (hM : ∀ i j, w ≤ i → i < u' → ty i ≠ 11 → M i j → u ≤ j ∧ j < u'' ∧ NdM H ty Hc M i j) : ∀ k, w + 1 + k ≤ u' → ∃ f : Nat → Nat, f w = u ∧ (∀ i, w ≤ i → i < w + 1 + k → ty i ≠ 11 → M i (f i)) ∧ ∀ (p t c : Nat), w ≤ p → p < w + 1 + k → c < w + 1 + k → ty p ≠ 256 → ty p ≠ 11 → (kds H p)[t]? = some c → (kds Hc (f p)).reverse[t]? = some (f c) := by
  obtain ⟨cov, up, kb, nd⟩ := b
  intro k
  induction k with
  | zero =>
    intro _
    refine ⟨fun _ => u, rfl, fun i i1 i2 _ => by rw [show i = w by omega]; exact hM0, fun p t c p1 p2 c1 _ _ h => ?_⟩
    have := (kb p c p1 (by omega) (List.mem_of_getElem? h)).1
    omega
  | succ k ih =>
    intro hk
    obtain ⟨f, f0, f1, f2⟩ := ih (by omega)
    obtain ⟨p, p1, p2, p3⟩ := cov (w + 1 + k) (by omega) (by omega)
    by_cases h11 : ty (w + 1 + k) = 11
    · refine ⟨f, f0, fun i i1 i2 h => ?_, fun q t c q1 q2 c1 h256 h11' h => ?_⟩
      · by_cases e : i = w + 1 + k
        · subst e; exact absurd h11 h
        · exact f1 i i1 (by omega) h
      · have hc := kb q c q1 (by omega) (List.mem_of_getElem? h)
        by_cases e : c = w + 1 + k
        · subst e; exact absurd h11 (na q q1 (by omega) h256 _ (List.mem_of_getElem? h))
        · exact f2 q t c q1 (by omega) (by omega) h256 h11' h
    · have p256 : ty p ≠ 256 := fun q => h11 (co p p1 (by omega) q _ p3)
      have p11 : ty p ≠ 11 := fun q => by rw [l11 p p1 (by omega) q] at p3; exact absurd p3 (by simp)
      obtain ⟨t, ht, et⟩ := List.getElem_of_mem p3
      have et' : (kds H p)[t]? = some (w + 1 + k) := by rw [List.getElem?_eq_getElem ht, et]
      have mp := f1 p p1 (by omega) p11
      obtain ⟨_, _, nm⟩ := hM p (f p) p1 (by omega) p11 mp
      rcases nm with ⟨q, _⟩ | ⟨_, _, _, n4, n5⟩
      · exact absurd q p256
      · have hx : t < (kds Hc (f p)).reverse.length := by rw [List.length_reverse, n4]; exact ht
        have ex := List.getElem?_eq_getElem hx
        have fpk : p ≠ w + 1 + k := by omega
        refine ⟨fun i => if i = w + 1 + k then (kds Hc (f p)).reverse[t] else f i, by simp only; rw [if_neg (by omega)]; exact f0, fun i i1 i2 h => ?_, fun q t' c q1 q2 c1 h256 h11' h => ?_⟩
        · by_cases e : i = w + 1 + k
          · subst e
            simp only [if_true]
            exact n5 t _ _ et' ex
          · simp only [if_neg e]; exact f1 i i1 (by omega) h
        · have hc := kb q c q1 (by omega) (List.mem_of_getElem? h)
          have eq : q ≠ w + 1 + k := by omega
          simp only [if_neg eq]
          by_cases e : c = w + 1 + k
          · subst e
            have epq := up q p _ q1 (by omega) p1 (by omega) (List.mem_of_getElem? h) p3
            subst epq
            have ett : t' = t := by
              have t1 := (List.getElem?_eq_some_iff.mp h).1
              exact (List.getElem?_inj t1 (nd q q1 (by omega))).mp (by rw [h, et'])
            subst ett
            simp only [if_true]
            exact ex
          · simp only [if_neg e]; exact f2 q t' c q1 (by omega) (by omega) h256 h11' h
theorem list_rev_eq {as bs : List Nat} {f : Nat → Nat} (hl : as.length = bs.length) (h : ∀ (t c : Nat), bs[t]? = some c → as.reverse[t]? = some (f c)) : as = (bs.map f).reverse := by
  have : as.reverse = bs.map f := by
    apply List.ext_getElem?
    intro t
    rw [List.getElem?_map]
    cases hb : bs[t]? with
    | none =>
      have := List.getElem?_eq_none_iff.mp hb
      rw [List.getElem?_eq_none (by rw [List.length_reverse]; omega)]; rfl
    | some c => rw [h t c hb]; rfl
  rw [← this, List.reverse_reverse]
/-- new trees on both sides, answering to each other -/
theorem RC.ext {H H' : Hp} {ty ty' phi : Nat → Nat} {Rn : Nat → Option Nat} {Hc Hc' : Hp} {w u' u u'' : Nat} (r : RC H ty phi Rn Hc) (hw : ∀ v, (H v).1 ≠ 0 → v < w) (hcl : ∀ v c, c ∈ kds H v → (H c).1 ≠ 0) (naw : ∀ v, (H v).1 ≠ 0 → ty v ≠ 256 → ∀ c, c ∈ kds H v → ty c ≠ 11) (hal : ∀ i, w ≤ i → i < u' → (H' i).1 ≠ 0) (hold : ∀ i, i < w → H' i = H i ∧ ty' i = ty i) (hdead : ∀ i, u' ≤ i → (H' i).1 = 0) (hRn : ∀ j t, Rn j = some t → t < w) (hcu : ∀ i, (Hc i).1 ≠ 0 → i < u) (hco : ∀ i, i < u → Hc' i = Hc i) (b : Blk H' w u') (bc : (∀ i j c, u ≤ i → i < u'' → u ≤ j → j < u'' → c ∈ kds Hc' i → c ∈ kds Hc' j → i = j) ∧ (∀ i c, u ≤ i → i < u'' → c ∈ kds Hc' i → i < c ∧ c < u'') ∧ ∀ i, u ≤ i → i < u'' → (kds Hc' i).Nodup) (hlt : w < u') (w11 : ty' w ≠ 11) (na : ∀ i, w ≤ i → i < u' → ty' i ≠ 256 → ∀ c, c ∈ kds H' i → ty' c ≠ 11) (co : ∀ i, w ≤ i → i < u' → ty' i = 256 → ∀ c, c ∈ kds H' i → ty' c = 11) (l11 : ∀ i, w ≤ i → i < u' → ty' i = 11 → kds H' i = []) {M : Nat → Nat → Prop} (hM0 : M w u) (hM : ∀ i j, w ≤ i → i < u' → ty' i ≠ 11 → M i j → u ≤ j ∧ j < u'' ∧ NdM H' ty' Hc' M i j) :
    ∃ phi' : Nat → Nat, (∀ i, i < w → phi' i = phi i) ∧ phi' w = u ∧ (∀ i, w ≤ i → i < u' → ty' i ≠ 11 → M i (phi' i)) ∧ (∀ i, Img H' ty' phi' Rn i → (Hc' i).1 ≠ 0 → ∀ c, c ∈ kds Hc' i → Img H' ty' phi' Rn c) ∧ ∀ Hn : Hp, (∀ i, Img H' ty' phi' Rn i → Hn i = Hc' i) → (∀ i, ¬ Img H' ty' phi' Rn i → Hn i = (0, 0, 0, [])) → RC H' ty' phi' Rn Hn := by
  obtain ⟨f, f0, f1, f2⟩ := ext_map b hlt na co l11 hM0 hM (u' - w - 1) (by omega)
  rw [show w + 1 + (u' - w - 1) = u' by omega] at f1 f2
  obtain ⟨g, gl, gg⟩ : ∃ g : Nat → Nat, (∀ i, i < w → g i = phi i) ∧ ∀ i, w ≤ i → g i = f i := ⟨fun i => if i < w then phi i else f i, fun i q => if_pos q, fun i q => if_neg (by omega)⟩
  obtain ⟨cov, up, kb, nd⟩ := b
  obtain ⟨cup, ckb, cnd⟩ := bc
  have alw : ∀ i, i < w → ((H' i).1 ≠ 0 ↔ (H i).1 ≠ 0) := fun i q => by rw [(hold i q).1]
  have pu : ∀ v, (H v).1 ≠ 0 → ty v ≠ 11 → phi v < u := fun v a b => by
    apply hcu
    rcases r.1 v a b with h | h
    · omega
    · rw [h.2.1]; exact a
  have cn : ∀ i, w ≤ i → i < u' → ty' i ≠ 11 → CN H' ty' g i (Hc' (f i)) ∧ u ≤ f i ∧ f i < u'' := by
    intro i i1 i2 h11
    obtain ⟨a1, a2, a3⟩ := hM i (f i) i1 i2 h11 (f1 i i1 i2 h11)
    refine ⟨?_, a1, a2⟩
    rcases a3 with a3 | ⟨a3, a4, a5, a6, a7⟩
    · exact .inl a3
    · refine .inr ⟨a3, a4, ?_, a5⟩
      have := list_rev_eq (f := f) a6 (fun t c h => f2 i t c i1 i2 (kb i c i1 i2 (List.mem_of_getElem? h)).2 a3 h11 h)
      show kds Hc' (f i) = _
      rw [this]
      congr 1
      refine List.map_congr_left (fun c hc => ?_)
      rw [gg c (by have := (kb i c i1 i2 hc).1; omega)]
  have cnw : ∀ v, (H v).1 ≠ 0 → ty v ≠ 11 → CN H' ty' g v (Hc' (phi v)) := by
    intro v hv h11
    have vw := hw v hv
    have ek : kds H' v = kds H v := by unfold kds; rw [(hold v vw).1]
    rw [hco _ (pu v hv h11)]
    rcases r.1 v hv h11 with ⟨c1, c2, c3, ⟨c, c4, c6⟩, c5⟩ | ⟨c1, c2, c3, c4⟩
    · refine .inl ⟨by rw [(hold v vw).2]; exact c1, c2, c3, ⟨c, by rw [ek]; exact c4, ?_⟩, c5⟩
      rw [(hold c (hw c (hcl v c (by rw [c4]; simp)))).1]; exact c6
    · refine .inr ⟨by rw [(hold v vw).2]; exact c1, by rw [(hold v vw).1]; exact c2, ?_, by rw [(hold v vw).1]; exact c4⟩
      rw [c3, ek]
      congr 1
      refine List.map_congr_left (fun c hc => ?_)
      rw [gl c (hw c (hcl v c hc))]
  -- f is one to one
  have inj : ∀ i i', w ≤ i → i < u' → ty' i ≠ 11 → w ≤ i' → i' < u' → ty' i' ≠ 11 → f i = f i' → i = i' := by
    have par : ∀ i, w < i → i < u' → ty' i ≠ 11 → ∃ (p t : Nat), w ≤ p ∧ p < i ∧ ty' p ≠ 256 ∧ ty' p ≠ 11 ∧ (kds H' p)[t]? = some i ∧ (kds Hc' (f p)).reverse[t]? = some (f i) := by
      intro i i1 i2 h11
      obtain ⟨p, p1, p2, p3⟩ := cov i i1 i2
      have p256 : ty' p ≠ 256 := fun q => h11 (co p p1 (by omega) q _ p3)
      have p11 : ty' p ≠ 11 := fun q => by rw [l11 p p1 (by omega) q] at p3; exact absurd p3 (by simp)
      obtain ⟨t, ht, et⟩ := List.getElem_of_mem p3
      have et' : (kds H' p)[t]? = some i := by rw [List.getElem?_eq_getElem ht, et]
      exact ⟨p, t, p1, p2, p256, p11, et', f2 p t i p1 (by omega) i2 p256 p11 et'⟩
    intro i
    induction i using Nat.strongRecOn with
    | ind i ih =>
      intro i' i1 i2 h11 j1 j2 h11' e
      by_cases c1 : i = w
      · by_cases c2 : i' = w
        · rw [c1, c2]
        · obtain ⟨p, t, p1, p2, p3, p4, p5, p6⟩ := par i' (by omega) j2 h11'
          have hp := (cn p p1 (by omega) p4).2
          have := (ckb (f p) (f i') hp.1 hp.2 (List.mem_reverse.mp (List.mem_of_getElem? p6))).1
          rw [← e, c1, f0] at this
          omega
      · obtain ⟨p, t, p1, p2, p3, p4, p5, p6⟩ := par i (by omega) i2 h11
        have hp := (cn p p1 (by omega) p4).2
        have m1 := List.mem_reverse.mp (List.mem_of_getElem? p6)
        by_cases c2 : i' = w
        · have := (ckb (f p) (f i) hp.1 hp.2 m1).1
          rw [e, c2, f0] at this
          omega
        · obtain ⟨q, t', q1, q2, q3, q4, q5, q6⟩ := par i' (by omega) j2 h11'
          have hq := (cn q q1 (by omega) q4).2
          have m2 := List.mem_reverse.mp (List.mem_of_getElem? q6)
          rw [← e] at m2
          have epq := cup (f p) (f q) _ hp.1 hp.2 hq.1 hq.2 m1 m2
          have epq' := ih p p2 q p1 (by omega) p4 q1 (by omega) q4 epq
          subst epq'
          have ett : t = t' := by
            have t1 := (List.getElem?_eq_some_iff.mp p6).1
            exact (List.getElem?_inj t1 (nodup_rev (cnd _ hp.1 hp.2))).mp (by rw [p6, q6, e])
          subst ett
          rw [p5] at q5
          exact Option.some.inj q5
  have cases' : ∀ v, (H' v).1 ≠ 0 → ty' v ≠ 11 → (v < w ∧ (H v).1 ≠ 0 ∧ ty v ≠ 11) ∨ (w ≤ v ∧ v < u') := by
    intro v hv h11
    by_cases c : v < w
    · exact .inl ⟨c, (alw v c).mp hv, by rw [← (hold v c).2]; exact h11⟩
    · right
      refine ⟨by omega, ?_⟩
      by_cases c2 : v < u'
      · exact c2
      · exact absurd (hdead v (by omega)) hv
  have img : ∀ v, (H' v).1 ≠ 0 → ty' v ≠ 11 → CN H' ty' g v (Hc' (g v)) := by
    intro v hv h11
    rcases cases' v hv h11 with ⟨a1, a2, a3⟩ | ⟨a1, a2⟩
    · rw [gl v a1]; exact cnw v a2 a3
    · rw [gg v a1]; exact (cn v a1 a2 h11).1
  have kal : ∀ v c, (H' v).1 ≠ 0 → ty' v ≠ 11 → ty' v ≠ 256 → c ∈ kds H' v → (H' c).1 ≠ 0 ∧ ty' c ≠ 11 := by
    intro v c hv h11 h256 hc
    rcases cases' v hv h11 with ⟨a1, a2, a3⟩ | ⟨a1, a2⟩
    · rw [kds, (hold v a1).1] at hc
      have q := hcl v c hc
      refine ⟨(alw c (hw c q)).mpr q, ?_⟩
      rw [(hold c (hw c q)).2]
      exact naw v a2 (by rw [← (hold v a1).2]; exact h256) c hc
    · have hb := kb v c a1 a2 hc
      exact ⟨hal c (by omega) hb.2, na v a1 a2 h256 c hc⟩
  have rnu : ∀ j t, Rn j = some t → j < u := fun j t q => hcu j (by rw [(r.2.2.1 j t q).1]; simp)
  refine ⟨g, gl, by rw [gg w (Nat.le_refl _)]; exact f0, fun i i1 i2 h => by rw [gg i i1]; exact f1 i i1 i2 h, fun i hi ha c hc => ?_, fun Hn hn1 hn2 => ⟨fun v hv h11 => ?_, fun v v' hv h11 hv' h11' e => ?_, fun j t q => ?_, fun j q => ?_⟩⟩
  · rcases hi with ⟨v, v1, v2, v3⟩ | ⟨t, q⟩
    · have cnv := img v v1 v2
      rw [v3] at cnv
      rcases cnv with ⟨_, _, _, _, c5⟩ | ⟨c1, _, c3, _⟩
      · rw [kds, c5] at hc; exact absurd hc (by simp)
      · rw [kds, c3, List.mem_reverse, List.mem_map] at hc
        obtain ⟨x, x1, x2⟩ := hc
        obtain ⟨y1, y2⟩ := kal v x v1 v2 c1 x1
        exact .inl ⟨x, y1, y2, x2⟩
    · rw [kds, hco i (rnu i t q), (r.2.2.1 i t q).1] at hc; exact absurd hc (by simp)
  · rw [hn1 _ (.inl ⟨v, hv, h11, rfl⟩)]; exact img v hv h11
  · rcases cases' v hv h11 with ⟨a1, a2, a3⟩ | ⟨a1, a2⟩
    · rcases cases' v' hv' h11' with ⟨b1, b2, b3⟩ | ⟨b1, b2⟩
      · rw [gl v a1, gl v' b1] at e; exact r.2.1 v v' a2 a3 b2 b3 e
      · rw [gl v a1, gg v' b1] at e
        have := (cn v' b1 b2 h11').2.1
        have := pu v a2 a3
        omega
    · rcases cases' v' hv' h11' with ⟨b1, b2, b3⟩ | ⟨b1, b2⟩
      · rw [gl v' b1, gg v a1] at e
        have := (cn v a1 a2 h11).2.1
        have := pu v' b2 b3
        omega
      · rw [gg v a1, gg v' b1] at e
        exact inj v v' a1 a2 h11 b1 b2 h11' e
  · obtain ⟨q1, q2⟩ := r.2.2.1 j t q
    have tw := hRn j t q
    refine ⟨?_, fun v hv h11 => ?_⟩
    · rw [hn1 j (.inr ⟨t, q⟩), hco j (rnu j t q), gl t tw]; exact q1
    · rcases cases' v hv h11 with ⟨a1, a2, a3⟩ | ⟨a1, a2⟩
      · rw [gl v a1]; exact q2 v a2 a3
      · rw [gg v a1]
        have := (cn v a1 a2 h11).2.1
        have := rnu j t q
        omega
  · by_cases c : Img H' ty' g Rn j
    · exact c
    · rw [hn2 j c] at q; exact absurd rfl q
/-- the same, with the class's rows -/
theorem RC.new {H H' : Hp} {ty ty' phi : Nat → Nat} {Rn : Nat → Option Nat} {Hc Hc' : Hp} {w u' u u'' : Nat} {z' : St} {s : Int32} (r : RC H ty phi Rn Hc) (hc : HC z' Hc' u'' s) (hw : ∀ v, (H v).1 ≠ 0 → v < w) (hcl : ∀ v c, c ∈ kds H v → (H c).1 ≠ 0) (naw : ∀ v, (H v).1 ≠ 0 → ty v ≠ 256 → ∀ c, c ∈ kds H v → ty c ≠ 11) (hal : ∀ i, w ≤ i → i < u' → (H' i).1 ≠ 0) (hold : ∀ i, i < w → H' i = H i ∧ ty' i = ty i) (hdead : ∀ i, u' ≤ i → (H' i).1 = 0) (hRn : ∀ j t, Rn j = some t → t < w) (hcu : ∀ i, (Hc i).1 ≠ 0 → i < u) (hco : ∀ i, i < u → Hc' i = Hc i) (b : Blk H' w u') (bc : (∀ i j c, u ≤ i → i < u'' → u ≤ j → j < u'' → c ∈ kds Hc' i → c ∈ kds Hc' j → i = j) ∧ (∀ i c, u ≤ i → i < u'' → c ∈ kds Hc' i → i < c ∧ c < u'') ∧ ∀ i, u ≤ i → i < u'' → (kds Hc' i).Nodup) (hlt : w < u') (w11 : ty' w ≠ 11) (na : ∀ i, w ≤ i → i < u' → ty' i ≠ 256 → ∀ c, c ∈ kds H' i → ty' c ≠ 11) (co : ∀ i, w ≤ i → i < u' → ty' i = 256 → ∀ c, c ∈ kds H' i → ty' c = 11) (l11 : ∀ i, w ≤ i → i < u' → ty' i = 11 → kds H' i = []) {M : Nat → Nat → Prop} (hM0 : M w u) (hM : ∀ i j, w ≤ i → i < u' → ty' i ≠ 11 → M i j → u ≤ j ∧ j < u'' ∧ NdM H' ty' Hc' M i j) :
    ∃ phi' Hn, HC z' Hn u'' s ∧ RC H' ty' phi' Rn Hn ∧ (∀ i, i < w → phi' i = phi i) ∧ phi' w = u := by
  obtain ⟨phi', h1, h2, _, h4, h5⟩ := r.ext hw hcl naw hal hold hdead hRn hcu hco b bc hlt w11 na co l11 hM0 hM
  obtain ⟨Hn, n1, n2, n3⟩ := hc.prune (Img H' ty' phi' Rn) h4
  exact ⟨phi', Hn, n1, h5 Hn n2 n3, h1, h2⟩
