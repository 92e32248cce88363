/-! CLASS AND REFERENCE: packing, writing, vectors, copies -/
section
variable {E : Ev} {H : Hp} {m : Nat} {ty phi : Nat → Nat} {Rn : Nat → Option Nat} {Hc : Hp} {z : St} {u : Nat} {s : Int32}
/-- a node that is no coin's amount does not hang below a coin -/
theorem coin_low {v c : Nat} (ht : HT E H m ty) (hv : (H v).1 ≠ 0) (h : ty v = 256) (hc : kds H v = [c]) : ty c = 11 := by
  obtain ⟨c', k1, k2, _⟩ := coin_kid ht hv h
  rw [hc] at k1
  have : c = c' := by simpa using k1
  rw [this]; exact k2
theorem RC.pack (r : RC H ty phi Rn Hc) (ht : HT E H m ty) (hu : ∀ i, (Hc i).1 ≠ 0 → i < u) (hRn : ∀ j t, Rn j = some t → t < m) {cs : List Nat} {t k : Nat} {lo x y : Int64} (hcs : ∀ c, c ∈ cs → c < m) (h256 : t ≠ 256) (h11 : t ≠ 11) (hk : inn k) : RC (upH H m (k, 0, lo, cs)) (fun i => if i = m then t else ty i) (fun i => if i = m then u else phi i) Rn (upH Hc u (k, x, y, (cs.map phi).reverse)) := by
  have hlt : ∀ v, (H v).1 ≠ 0 → v < m := fun v q => (ht.2 v q).1
  have pne : ∀ v, (H v).1 ≠ 0 → ty v ≠ 11 → phi v ≠ u := fun v a b e => by have := hu _ (r.al a b); omega
  have mphi : ∀ l : List Nat, (∀ c, c ∈ l → c < m) → l.map (fun i => if i = m then u else phi i) = l.map phi := fun l h => List.map_congr_left (fun c hc => by rw [if_neg (by have := h c hc; omega)])
  have ek : ∀ v, v ≠ m → kds (upH H m (k, 0, lo, cs)) v = kds H v := fun v q => by unfold kds; rw [upH_n q]
  have em : kds (upH H m (k, 0, lo, cs)) m = cs := by unfold kds; rw [upH_s]
  have alv : ∀ v, v ≠ m → ((upH H m (k, 0, lo, cs)) v) = H v := fun v q => upH_n q
  refine ⟨fun v hv h => ?_, fun v w hv h hw h' e => ?_, fun w x' q => ?_, fun w q => ?_⟩
  · by_cases c : v = m
    · subst c
      simp only [if_true] at h ⊢
      rw [upH_s]
      refine .inr ⟨by simp only [if_true]; exact h256, by rw [upH_s], ?_, fun q => absurd (by rw [upH_s] at q; exact q) (fun q' : ¬ inn k => q' hk)⟩
      rw [em, mphi cs hcs]
    · simp only [if_neg c] at h ⊢
      rw [alv v c] at hv
      rw [upH_n (pne v hv h)]
      rcases r.1 v hv h with ⟨c1, c2, c3, ⟨a, c4, c6⟩, c5⟩ | ⟨c1, c2, c3, c4⟩
      · refine .inl ⟨by simp only [if_neg c]; exact c1, c2, c3, ⟨a, by rw [ek v c]; exact c4, ?_⟩, c5⟩
        have := hlt a ((ht.2 v hv).2.2.1 a (by rw [c4]; simp))
        rw [alv a (by omega)]; exact c6
      · refine .inr ⟨by simp only [if_neg c]; exact c1, by rw [alv v c]; exact c2, ?_, by rw [alv v c]; exact c4⟩
        rw [ek v c, mphi _ (fun a ha => hlt a ((ht.2 v hv).2.2.1 a ha))]; exact c3
  · by_cases c : v = m
    · by_cases c' : w = m
      · rw [c, c']
      · simp only [if_pos c, if_neg c'] at e
        rw [alv w c'] at hw
        simp only [if_neg c'] at h'
        exact absurd e.symm (pne w hw h')
    · by_cases c' : w = m
      · simp only [if_neg c, if_pos c'] at e
        rw [alv v c] at hv
        simp only [if_neg c] at h
        exact absurd e (pne v hv h)
      · simp only [if_neg c, if_neg c'] at e h h'
        rw [alv v c] at hv
        rw [alv w c'] at hw
        exact r.2.1 v w hv h hw h' e
  · obtain ⟨q1, q2⟩ := r.2.2.1 w x' q
    have wu : w < u := hu w (by rw [q1]; simp)
    have := hRn w x' q
    refine ⟨by rw [upH_n (by omega)]; simp only [if_neg (show x' ≠ m by omega)]; exact q1, fun v hv h => ?_⟩
    by_cases c : v = m
    · simp only [if_pos c]; omega
    · simp only [if_neg c] at h ⊢
      rw [alv v c] at hv
      exact q2 v hv h
  · by_cases c : w = u
    · exact .inl ⟨m, by rw [upH_s]; rcases hk with q | q <;> simp [q], by simp only [if_true]; exact h11, by simp [c]⟩
    · rw [upH_n c] at q
      rcases r.2.2.2 w q with ⟨v, v1, v2, v3⟩ | h
      · have := hlt v v1
        exact .inl ⟨v, by rw [alv v (by omega)]; exact v1, by simp only [if_neg (show v ≠ m by omega)]; exact v2, by simp only [if_neg (show v ≠ m by omega)]; exact v3⟩
      · exact .inr h
theorem RC.unpack (r : RC H ty phi Rn Hc) (ht : HT E H m ty) {x : Nat} (hx : (H x).1 ≠ 0) (h11 : ty x ≠ 11) (hxr : Rt H x) : RC (upH H x (0, 0, 0, [])) ty phi Rn (upH Hc (phi x) (0, 0, 0, [])) := by
  have ne : ∀ v, ((upH H x (0, 0, 0, [])) v).1 ≠ 0 → v ≠ x ∧ (H v).1 ≠ 0 := fun v q => by
    by_cases c : v = x
    · subst c; rw [upH_s] at q; exact absurd rfl q
    · rw [upH_n c] at q; exact ⟨c, q⟩
  refine ⟨fun v hv h => ?_, fun v w hv h hw h' e => r.2.1 v w (ne v hv).2 h (ne w hw).2 h' e, fun w t q => ?_, fun w q => ?_⟩
  · obtain ⟨n1, n2⟩ := ne v hv
    have pn : phi v ≠ phi x := fun e => n1 (r.2.1 v x n2 h hx h11 e)
    rw [upH_n pn]
    have ek : kds (upH H x (0, 0, 0, [])) v = kds H v := by unfold kds; rw [upH_n n1]
    rcases r.1 v n2 h with ⟨c1, c2, c3, ⟨a, c4, c6⟩, c5⟩ | ⟨c1, c2, c3, c4⟩
    · refine .inl ⟨c1, c2, c3, ⟨a, by rw [ek]; exact c4, ?_⟩, c5⟩
      rw [upH_n (fun e => h11 (by rw [← e]; exact coin_low ht n2 c1 c4))]; exact c6
    · exact .inr ⟨c1, by rw [upH_n n1]; exact c2, by rw [ek]; exact c3, by rw [upH_n n1]; exact c4⟩
  · obtain ⟨q1, q2⟩ := r.2.2.1 w t q
    refine ⟨by rw [upH_n (fun e => q2 x hx h11 e.symm)]; exact q1, fun v hv h => q2 v (ne v hv).2 h⟩
  · by_cases c : w = phi x
    · rw [c, upH_s] at q; exact absurd rfl q
    · rw [upH_n c] at q
      rcases r.2.2.2 w q with ⟨v, v1, v2, v3⟩ | h
      · refine .inl ⟨v, ?_, v2, v3⟩
        rw [upH_n (fun e => c (by rw [← v3, e]))]; exact v1
      · exact .inr h
theorem RC.write (r : RC H ty phi Rn Hc) (ht : HT E H m ty) {x N : Nat} (hx : (H x).1 ≠ 0) (hN : (H N).1 ≠ 0) (hty : ty N = ty x) (h11 : ty x ≠ 11) (hne : N ≠ x) : RC (upH (upH H N (H x)) x (0, 0, 0, [])) ty phi Rn (upH (upH Hc (phi N) (Hc (phi x))) (phi x) (0, 0, 0, [])) := by
  have hN11 : ty N ≠ 11 := by rw [hty]; exact h11
  have pNx : phi N ≠ phi x := fun e => hne (r.2.1 N x hN hN11 hx h11 e)
  have eN : (upH (upH H N (H x)) x (0, 0, 0, [])) N = H x := by rw [upH_n hne, upH_s]
  have eo : ∀ v, v ≠ N → v ≠ x → (upH (upH H N (H x)) x (0, 0, 0, [])) v = H v := fun v a b => by rw [upH_n b, upH_n a]
  have ne : ∀ v, ((upH (upH H N (H x)) x (0, 0, 0, [])) v).1 ≠ 0 → v ≠ x ∧ (H v).1 ≠ 0 := fun v q => by
    by_cases c : v = x
    · subst c; rw [upH_s] at q; exact absurd rfl q
    · refine ⟨c, ?_⟩
      by_cases c2 : v = N
      · rw [c2]; exact hN
      · rw [eo v c2 c] at q; exact q
  have al : ∀ v, v ≠ x → (H v).1 ≠ 0 → ((upH (upH H N (H x)) x (0, 0, 0, [])) v).1 ≠ 0 := fun v a b => by
    by_cases c2 : v = N
    · rw [c2, eN]; exact hx
    · rw [eo v c2 a]; exact b
  refine ⟨fun v hv h => ?_, fun v w hv h hw h' e => r.2.1 v w (ne v hv).2 h (ne w hw).2 h' e, fun w t q => ?_, fun w q => ?_⟩
  · obtain ⟨n1, n2⟩ := ne v hv
    by_cases c : v = N
    · subst c
      rw [upH_n pNx, upH_s]
      have ek : kds (upH (upH H v (H x)) x (0, 0, 0, [])) v = kds H x := by unfold kds; rw [eN]
      rcases r.1 x hx h11 with ⟨c1, c2, c3, ⟨a, c4, c6⟩, c5⟩ | ⟨c1, c2, c3, c4⟩
      · have a11 := coin_low ht hx c1 c4
        refine .inl ⟨by rw [hty]; exact c1, c2, c3, ⟨a, by rw [ek]; exact c4, ?_⟩, c5⟩
        rw [eo a (fun e => hN11 (by rw [← e]; exact a11)) (fun e => h11 (by rw [← e]; exact a11))]; exact c6
      · exact .inr ⟨by rw [hty]; exact c1, by rw [eN]; exact c2, by rw [ek]; exact c3, by rw [eN]; exact c4⟩
    · have p1 : phi v ≠ phi x := fun e => n1 (r.2.1 v x n2 h hx h11 e)
      have p2 : phi v ≠ phi N := fun e => c (r.2.1 v N n2 h hN hN11 e)
      rw [upH_n p1, upH_n p2]
      have ek : kds (upH (upH H N (H x)) x (0, 0, 0, [])) v = kds H v := by unfold kds; rw [eo v c n1]
      rcases r.1 v n2 h with ⟨c1, c2, c3, ⟨a, c4, c6⟩, c5⟩ | ⟨c1, c2, c3, c4⟩
      · have a11 := coin_low ht n2 c1 c4
        refine .inl ⟨c1, c2, c3, ⟨a, by rw [ek]; exact c4, ?_⟩, c5⟩
        rw [eo a (fun e => hN11 (by rw [← e]; exact a11)) (fun e => h11 (by rw [← e]; exact a11))]; exact c6
      · exact .inr ⟨c1, by rw [eo v c n1]; exact c2, by rw [ek]; exact c3, by rw [eo v c n1]; exact c4⟩
  · obtain ⟨q1, q2⟩ := r.2.2.1 w t q
    refine ⟨by rw [upH_n (fun e => q2 x hx h11 e.symm), upH_n (fun e => q2 N hN hN11 e.symm)]; exact q1, fun v hv h => q2 v (ne v hv).2 h⟩
  · by_cases c : w = phi x
    · rw [c, upH_s] at q; exact absurd rfl q
    · rw [upH_n c] at q
      by_cases c2 : w = phi N
      · exact .inl ⟨N, al N hne hN, hN11, c2.symm⟩
      · rw [upH_n c2] at q
        rcases r.2.2.2 w q with ⟨v, v1, v2, v3⟩ | h
        · exact .inl ⟨v, al v (fun e => c (by rw [← v3, e])) v1, v2, v3⟩
        · exact .inr h
theorem RC.parts (r : RC H ty phi Rn Hc) (ht : HT E H m ty) {N : Nat} {cs : List Nat} (hN : (H N).1 ≠ 0) (h11 : ty N ≠ 11) (h256 : ty N ≠ 256) : RC (upH H N (setC (H N) cs)) ty phi Rn (upH Hc (phi N) (setC (Hc (phi N)) (cs.map phi).reverse)) := by
  have al : ∀ v, ((upH H N (setC (H N) cs)) v).1 = (H v).1 ∧ ((upH H N (setC (H N) cs)) v).2.1 = (H v).2.1 ∧ ((upH H N (setC (H N) cs)) v).2.2.1 = (H v).2.2.1 := fun v => by
    by_cases c : v = N
    · subst c; rw [upH_s]; exact ⟨rfl, rfl, rfl⟩
    · rw [upH_n c]; exact ⟨rfl, rfl, rfl⟩
  refine ⟨fun v hv h => ?_, fun v w hv h hw h' e => r.2.1 v w (by rw [← (al v).1]; exact hv) h (by rw [← (al w).1]; exact hw) h' e, fun w t q => ?_, fun w q => ?_⟩
  · rw [(al v).1] at hv
    by_cases c : v = N
    · subst c
      rw [upH_s]
      rcases r.1 v hv h with ⟨c1, _⟩ | ⟨c1, c2, c3, c4⟩
      · exact absurd c1 h256
      · exact .inr ⟨c1, by rw [(al v).1]; exact c2, by unfold kds; rw [upH_s]; rfl, by rw [(al v).1, (al v).2.1, (al v).2.2]; exact c4⟩
    · have pn : phi v ≠ phi N := fun e => c (r.2.1 v N hv h hN h11 e)
      rw [upH_n pn]
      have ek : kds (upH H N (setC (H N) cs)) v = kds H v := by unfold kds; rw [upH_n c]
      rcases r.1 v hv h with ⟨c1, c2, c3, ⟨a, c4, c6⟩, c5⟩ | ⟨c1, c2, c3, c4⟩
      · exact .inl ⟨c1, c2, c3, ⟨a, by rw [ek]; exact c4, by rw [(al a).2.2]; exact c6⟩, c5⟩
      · exact .inr ⟨c1, by rw [(al v).1]; exact c2, by rw [ek]; exact c3, by rw [(al v).1, (al v).2.1, (al v).2.2]; exact c4⟩
  · obtain ⟨q1, q2⟩ := r.2.2.1 w t q
    exact ⟨by rw [upH_n (fun e => q2 N hN h11 e.symm)]; exact q1, fun v hv h => q2 v (by rw [← (al v).1]; exact hv) h⟩
  · by_cases c : w = phi N
    · exact .inl ⟨N, by rw [(al N).1]; exact hN, h11, c.symm⟩
    · rw [upH_n c] at q
      rcases r.2.2.2 w q with ⟨v, v1, v2, v3⟩ | h
      · exact .inl ⟨v, by rw [(al v).1]; exact v1, v2, v3⟩
      · exact .inr h
theorem RC.swap (r : RC H ty phi Rn Hc) (ht : HT E H m ty) {p q : Nat} (hp : (H p).1 ≠ 0) (hq : (H q).1 ≠ 0) (hty : ty p = ty q) (h11 : ty p ≠ 11) : RC (upH (upH H p (H q)) q (H p)) ty phi Rn (upH (upH Hc (phi p) (Hc (phi q))) (phi q) (Hc (phi p))) := by
  have hq11 : ty q ≠ 11 := by rw [← hty]; exact h11
  have gen : ∀ (G : Hp) (a b : Nat), (upH (upH G a (G b)) b (G a)) b = G a ∧ (upH (upH G a (G b)) b (G a)) a = G b ∧ ∀ v, v ≠ a → v ≠ b → (upH (upH G a (G b)) b (G a)) v = G v := by
    intro G a b
    refine ⟨upH_s _ _ _, ?_, fun v x y => by rw [upH_n y, upH_n x]⟩
    by_cases c : a = b
    · subst c; rw [upH_s]
    · rw [upH_n c, upH_s]
  obtain ⟨e1, e2, e3⟩ := gen H p q
  obtain ⟨d1, d2, d3⟩ := gen Hc (phi p) (phi q)
  generalize upH (upH H p (H q)) q (H p) = H' at e1 e2 e3
  generalize upH (upH Hc (phi p) (Hc (phi q))) (phi q) (Hc (phi p)) = Hc' at d1 d2 d3
  have low11 : ∀ a, ty a = 11 → H' a = H a := fun a ha => e3 a (fun e => h11 (by rw [← e]; exact ha)) (fun e => hq11 (by rw [← e]; exact ha))
  -- the class's node for v is that of w, if v's node is w's
  have mv : ∀ v w, (H w).1 ≠ 0 → ty w ≠ 11 → ty v = ty w → H' v = H w → Hc' (phi v) = Hc (phi w) → CN H' ty phi v (Hc' (phi v)) := by
    intro v w hw h hty' a1 a2
    rw [a2]
    have ek : kds H' v = kds H w := by unfold kds; rw [a1]
    rcases r.1 w hw h with ⟨c1, c2, c3, ⟨a, c4, c6⟩, c5⟩ | ⟨c1, c2, c3, c4⟩
    · exact .inl ⟨by rw [hty']; exact c1, c2, c3, ⟨a, by rw [ek]; exact c4, by rw [low11 a (coin_low ht hw c1 c4)]; exact c6⟩, c5⟩
    · exact .inr ⟨by rw [hty']; exact c1, by rw [a1]; exact c2, by rw [ek]; exact c3, by rw [a1]; exact c4⟩
  have al : ∀ v, (H' v).1 ≠ 0 ↔ (H v).1 ≠ 0 := fun v => by
    by_cases c1 : v = p
    · subst c1; rw [e2]; exact ⟨fun _ => hp, fun _ => hq⟩
    · by_cases c2 : v = q
      · subst c2; rw [e1]; exact ⟨fun _ => hq, fun _ => hp⟩
      · rw [e3 v c1 c2]
  refine ⟨fun v hv h => ?_, fun v w hv h hw h' e => r.2.1 v w ((al v).mp hv) h ((al w).mp hw) h' e, fun w t x => ?_, fun w x => ?_⟩
  · have hv' := (al v).mp hv
    by_cases c1 : v = p
    · subst c1; exact mv v q hq hq11 hty e2 d2
    · by_cases c2 : v = q
      · subst c2; exact mv v p hp h11 hty.symm e1 d1
      · exact mv v v hv' h rfl (e3 v c1 c2) (d3 _ (fun e => c1 (r.2.1 v p hv' h hp h11 e)) (fun e => c2 (r.2.1 v q hv' h hq hq11 e)))
  · obtain ⟨q1, q2⟩ := r.2.2.1 w t x
    exact ⟨by rw [d3 w (fun e => q2 p hp h11 e.symm) (fun e => q2 q hq hq11 e.symm)]; exact q1, fun v hv h => q2 v ((al v).mp hv) h⟩
  · by_cases c1 : w = phi p
    · exact .inl ⟨p, (al p).mpr hp, h11, c1.symm⟩
    · by_cases c2 : w = phi q
      · exact .inl ⟨q, (al q).mpr hq, hq11, c2.symm⟩
      · rw [d3 w c1 c2] at x
        rcases r.2.2.2 w x with ⟨v, v1, v2, v3⟩ | h
        · exact .inl ⟨v, (al v).mpr v1, v2, v3⟩
        · exact .inr h
/-- types see only kind, high and low of a node -/
theorem LTm.of {t : Nat} {x y : Nd} {ts : List Nat} (h : LTm E t x ts) (e1 : y.1 = x.1) (e2 : y.2.1 = x.2.1) (e3 : y.2.2.1 = x.2.2.1) : LTm E t y ts := by
  unfold LTm at h ⊢
  rw [e1, e2, e3]; exact h
/-- a copy on both sides -/
theorem CpM.blk {d v : Nat} {H' : Hp} {u' : Nat} {o : Nat → Nat} (c : CpM H m d v H' u' o) : Blk H' m u' := by
  obtain ⟨_, _, _, _, b, cov⟩ := c
  exact ⟨cov, fun i j c i1 i2 j1 j2 h h' => ((b i i1 i2).2.2.2.2.2.2.2 j j1 j2 c h h').symm, fun i c i1 i2 h => (b i i1 i2).2.2.2.2.2.2.1 c h, fun i i1 i2 => (b i i1 i2).2.2.2.2.2.1⟩
theorem CpM.typed (ht : HT E H m ty) {d v : Nat} {H' : Hp} {u' : Nat} {o : Nat → Nat} (c : CpM H m d v H' u' o) : ∀ i, m ≤ i → i < u' → (H' i).1 ≠ 0 ∧ LTm E (ty (o i)) (H' i) ((kds H' i).map (fun j => if j < m then ty j else ty (o j))) ∧ (kds H' i).Nodup ∧ E.2.1 (ty (o i)) ≤ 38 ∧ (∀ c, c ∈ kds H' i → i < c ∧ c < u') ∧ ∀ j, m ≤ j → j < u' → ∀ c, c ∈ kds H' i → c ∈ kds H' j → j = i := by
  obtain ⟨_, _, _, _, b, _⟩ := c
  intro i i1 i2
  obtain ⟨b1, b2, b3, b4, b5, b6, b7, b8⟩ := b i i1 i2
  obtain ⟨_, a2, _, _, a5⟩ := ht.2 (o i) b1
  refine ⟨by rw [b2]; exact b1, ?_, b6, a5, b7, b8⟩
  have e : (kds H' i).map (fun j => if j < m then ty j else ty (o j)) = (kds H (o i)).map ty := by
    rw [show kds H (o i) = ((kds H' i).map o) from b5.symm, List.map_map]
    refine List.map_congr_left (fun c hc => ?_)
    rw [if_neg (by have := (b7 c hc).1; omega)]
    rfl
  rw [e]
  exact a2.of b2 b3 b4
theorem RC.copy (r : RC H ty phi Rn Hc) (ht : HT E H m ty) (hA : EvA E) (hN : NoA ty H) (hRn : ∀ j t, Rn j = some t → t < m) {d dc v : Nat} {H' : Hp} {u' : Nat} {o : Nat → Nat} (c : CpM H m d v H' u' o) (hsz : 1 ≤ szM H d v) (h11 : ty v ≠ 11) (hcu : ∀ i, (Hc i).1 ≠ 0 → i < u) {z' : St} {Hc' : Hp} {u'' : Nat} {oc : Nat → Nat} (k : CpR z Hc u s dc (phi v) z' Hc' u'' oc) : ∃ phi' Hn, HC z' Hn u'' s ∧ RC H' (fun j => if j < m then ty j else ty (o j)) phi' Rn Hn ∧ (∀ i, i < m → phi' i = phi i) ∧ phi' m = u := by
  have blk := c.blk
  have tyd := c.typed ht
  have tn := ht.tyn hA hN
  obtain ⟨c1, c2, c3, c4, b, cov⟩ := c
  obtain ⟨k1, k2, k3, k4, k5, kb, _⟩ := k
  have hw : ∀ v, (H v).1 ≠ 0 → v < m := fun v q => (ht.2 v q).1
  have tyo : ∀ i, m ≤ i → (if i < m then ty i else ty (o i)) = ty (o i) := fun i q => if_neg (by omega)
  have kid : ∀ i, m ≤ i → i < u' → ∀ x, x ∈ kds H' i → o x ∈ kds H (o i) ∧ (if x < m then ty x else ty (o x)) = ty (o x) := fun i i1 i2 x hx => by
    obtain ⟨_, _, _, _, b5, _, b7, _⟩ := b i i1 i2
    refine ⟨?_, tyo x (by have := (b7 x hx).1; omega)⟩
    show o x ∈ (H (o i)).2.2.2
    rw [← b5]; exact List.mem_map_of_mem hx
  refine r.new k1 hw tn.1 tn.2 (fun i a b' => (tyd i a b').1) (fun i q => ⟨c2 i q, if_pos q⟩) (fun i q => by rw [c3 i q]) hRn hcu k4 blk ⟨fun i j x i1 i2 j1 j2 h h' => ((kb i i1 i2).2.2.2.2.2.2.2 j j1 j2 x h h').symm, fun i x i1 i2 h => (kb i i1 i2).2.2.2.2.2.2.1 x h, fun i i1 i2 => (kb i i1 i2).2.2.2.2.2.1⟩ (by omega) ?_ (fun i i1 i2 h x hx => ?_) (fun i i1 i2 h x hx => ?_) (fun i i1 i2 h => ?_) (M := fun i j => m ≤ i ∧ i < u' ∧ u ≤ j ∧ j < u'' ∧ oc j = phi (o i)) ⟨Nat.le_refl _, by omega, Nat.le_refl _, k2, by rw [k5, c4]⟩ (fun i j i1 i2 h M => ?_)
  · rw [tyo m (Nat.le_refl _), c4]; exact h11
  · rw [tyo i i1] at h
    rw [(kid i i1 i2 x hx).2]
    exact tn.2 (o i) (b i i1 i2).1 h _ (kid i i1 i2 x hx).1
  · rw [tyo i i1] at h
    rw [(kid i i1 i2 x hx).2]
    obtain ⟨y, y1, y2, _⟩ := coin_kid ht (b i i1 i2).1 h
    have := (kid i i1 i2 x hx).1
    rw [y1] at this
    rw [List.mem_singleton.mp this]; exact y2
  · rw [tyo i i1] at h
    obtain ⟨b1, _, _, _, b5, _⟩ := b i i1 i2
    have a2 := (ht.2 (o i) b1).2.1
    have : (kds H (o i)).map ty = [] := by
      rcases a2.ts with ⟨_, e⟩ | ⟨e, _⟩
      · rw [e, if_neg (by omega), if_neg (by omega)]
      · omega
    have e := List.map_eq_nil_iff.mp this
    have : (kds H' i).map o = [] := by rw [show (kds H' i).map o = kds H (o i) from b5]; exact e
    exact List.map_eq_nil_iff.mp this
  · obtain ⟨_, _, j1, j2, eo⟩ := M
    rw [tyo i i1] at h
    obtain ⟨b1, b2, b3, b4, b5, b6, b7, b8⟩ := b i i1 i2
    obtain ⟨d1, d2, d3, d4, d5, d6, d7, d8⟩ := kb j j1 j2
    rw [eo] at d2 d3 d4 d5
    refine ⟨j1, j2, ?_⟩
    rcases r.1 (o i) b1 h with ⟨p1, p2, p3, ⟨a, p4, p6⟩, p5⟩ | ⟨p1, p2, p3, p4⟩
    · have e1 : (kds H' i).map o = [a] := by rw [show (kds H' i).map o = kds H (o i) from b5]; exact p4
      obtain ⟨a', ea, ea'⟩ : ∃ a', kds H' i = [a'] ∧ o a' = a := by
        cases hk : kds H' i with
        | nil => rw [hk] at e1; exact absurd e1 (by simp)
        | cons y ys =>
          rw [hk] at e1
          simp only [List.map_cons, List.cons.injEq, List.map_eq_nil_iff] at e1
          exact ⟨y, by rw [e1.2], e1.1⟩
      have hb := b7 a' (by rw [show (H' i).2.2.2 = [a'] from ea]; simp)
      refine .inl ⟨by show (if i < m then ty i else ty (o i)) = 256; rw [tyo i i1]; exact p1, by rw [d2]; exact p2, by rw [d3]; exact p3, ⟨a', ea, ?_⟩, ?_⟩
      · rw [d4, p6, (b a' (by omega) hb.2).2.2.2.1, ea']
      · rw [p5] at d5; exact List.map_eq_nil_iff.mp d5
    · have el : (kds Hc' j).map oc = ((kds H' i).map (fun x => phi (o x))).reverse := by
        rw [show (kds Hc' j).map oc = (Hc (phi (o i))).2.2.2 from d5, p3, show kds H (o i) = (kds H' i).map o from b5.symm, List.map_map]
        rfl
      refine .inr ⟨by show (if i < m then ty i else ty (o i)) ≠ 256; rw [tyo i i1]; exact p1, by rw [d2, p2, b2], fun q => ?_, ?_, fun t x y hx hy => ?_⟩
      · rw [b2] at q
        rw [d3, d4, b3, b4]; exact p4 q
      · have := congrArg List.length el
        simpa using this
      · have hxm := List.mem_of_getElem? hx
        have hym := List.mem_reverse.mp (List.mem_of_getElem? hy)
        have hxb := b7 x hxm
        have hyb := d7 y hym
        refine ⟨by omega, hxb.2, by omega, hyb.2, ?_⟩
        have e2 : (kds Hc' j).reverse.map oc = (kds H' i).map (fun x => phi (o x)) := by rw [List.map_reverse, el, List.reverse_reverse]
        have e3 : ((kds Hc' j).reverse.map oc)[t]? = ((kds H' i).map (fun x => phi (o x)))[t]? := by rw [e2]
        rw [List.getElem?_map, List.getElem?_map, hx, hy] at e3
        simpa using e3
end
