/-! THE MACHINE'S STATE: changes of the heap -/
section
variable {E : Ev} {H : Hp} {m : Nat} {ty : Nat → Nat} {fr : Nat → Fm} {nf na : Nat} {ak : Nat → Ask} {hd : Nat → Option Nat}
theorem setF_id (fr : Nat → Fm) (d : Nat) : setF fr d (fr d) = fr := by
  funext e
  by_cases c : e = d
  · subst c; rw [setF_s]
  · rw [setF_n c]
theorem MJ0.hands (I : MJ0 E H m ty fr nf na ak hd) {hd' : Nat → Option Nat} (hh : ∀ k X, hd' k = some X → hd k = some X) : MJ0 E H m ty fr nf na ak hd' := by
  have := I.dropN 0 hh
  have e : setH (fr (nf - 1)) ((fr (nf - 1)).2.2.1.1 - 0) = fr (nf - 1) := rfl
  rw [e, setF_id] at this
  exact this
theorem MJ0.lva (I : MJ0 E H m ty fr nf na ak hd) {a d k X : Nat} (h : LvA fr nf na ak hd a d k = some X) : (H X).1 ≠ 0 := by
  obtain ⟨_, ht, sl, hh, hk, hg, hnf⟩ := I
  have := lv4 h
  by_cases e0 : a = 0
  · subst e0
    rw [lv0] at h
    by_cases cc : d < nf ∧ k < (fr d).2.2.1.1
    · rw [if_pos cc] at h
      rw [← (pln_e h).2]
      exact ((sl d cc.1).1 k cc.2).1
    · rw [if_neg cc] at h; exact absurd h (by simp)
  · by_cases e1 : a = 1
    · subst e1
      rw [lv1] at h
      by_cases cc : d < nf
      · rw [if_pos cc] at h
        cases hs : (fr d).2.1 k with
        | none => rw [hs] at h; exact absurd h (by simp)
        | some s =>
          rw [hs, Option.bind_some] at h
          rw [← (pln_e h).2]
          exact ((sl d cc).2.1 k s hs).2.1
      · rw [if_neg cc] at h; exact absurd h (by simp)
    · by_cases e2 : a = 2
      · subst e2
        rw [lv2] at h
        by_cases cc : d = 0 ∧ k < na ∧ (ak k).1 = 3 ∧ (ak k).2.2.2.2.1 = true
        · rw [if_pos cc] at h; cases h; exact (hk k cc.2.1 cc.2.2.1 cc.2.2.2).1
        · rw [if_neg cc] at h; exact absurd h (by simp)
      · have e3 : a = 3 := by omega
        subst e3
        rw [lv3] at h
        by_cases cc : d = 0
        · rw [if_pos cc] at h; exact hh k X h
        · rw [if_neg cc] at h; exact absurd h (by simp)
theorem MJ0.rfa (I : MJ0 E H m ty fr nf na ak hd) {d : Nat} {s : Sl} (h : RfA fr nf d s) : (H s.1).1 ≠ 0 ∧ ty s.1 = s.2.2.1 := by
  obtain ⟨h1, _, h3⟩ := h
  have sl := I.2.2.1 d h1
  rcases h3 with ⟨k, k1, k2⟩ | ⟨k, k1⟩ | ⟨k, k1⟩
  · rw [← k2]; exact ⟨(sl.1 k k1).1, (sl.1 k k1).2.1⟩
  · exact ⟨(sl.2.1 k s k1).2.1, (sl.2.1 k s k1).2.2.1⟩
  · exact ⟨(sl.2.2 k s k1).2.1, (sl.2.2 k s k1).2.2.1⟩
theorem MJ0.lt (I : MJ0 E H m ty fr nf na ak hd) {v : Nat} (h : (H v).1 ≠ 0) : v < m := (I.2.1.2 v h).1
theorem MJ0.dead (I : MJ0 E H m ty fr nf na ak hd) {v : Nat} (h : m ≤ v) : H v = (0, 0, 0, []) := by
  by_cases c : (H v).1 = 0
  · exact I.2.1.1 v c
  · have := I.lt c; omega
/-- the heap changes within a region; Dd: what died -/
theorem MJ0.hp (I : MJ0 E H m ty fr nf na ak hd) (hE : EvOk E) {H' : Hp} {m' : Nat} {ty' : Nat → Nat} (ht' : HT E H' m' ty') (pu' : PU H') {R X Dd : Nat → Prop} (h1 : ∀ y, ¬ R y → kds H' y = kds H y) (h2 : ∀ y, R y → ∀ c, c ∈ kds H' y → R c ∧ ¬ X c) (h3 : ∀ y, R y → ∀ c, c ∈ kds H y → R c ∧ ¬ X c) (hs : ∀ d s, RfA fr nf d s → (¬ R s.1 ∨ X s.1) ∧ ¬ Dd s.1) (hrt : ∀ a d k x, LvA fr nf na ak hd a d k = some x → Rt H' x ∧ ¬ Dd x) (hal : ∀ v, (H v).1 ≠ 0 → ¬ Dd v → (H' v).1 ≠ 0 ∧ ty' v = ty v) : MJ0 E H' m' ty' fr nf na ak hd := by
  have lva := @MJ0.lva _ _ _ _ _ _ _ _ _ I
  obtain ⟨J, ht, sl, hh, hk, hg, hnf⟩ := I
  have at_ : ∀ v, (H v).1 ≠ 0 → (∃ a d k, LvA fr nf na ak hd a d k = some v) ∨ (∃ d s, RfA fr nf d s ∧ s.1 = v) → (H' v).1 ≠ 0 ∧ ty' v = ty v := by
    intro v hv h
    refine hal v hv ?_
    rcases h with ⟨a, d, k, h⟩ | ⟨d, s, h, e⟩
    · exact (hrt _ _ _ _ h).2
    · rw [← e]; exact (hs d s h).2
  have slt : ∀ s, SlT H ty s → (s.2.1 = 0 → ∃ a d k, LvA fr nf na ak hd a d k = some s.1) → (s.2.1 ≠ 0 → ∃ d, RfA fr nf d s) → SlT H' ty' s := by
    intro s ⟨a1, a2, a3⟩ p1 p2
    have := at_ s.1 a1 (by
      by_cases c : s.2.1 = 0
      · exact .inl (p1 c)
      · obtain ⟨d, q⟩ := p2 c
        exact .inr ⟨d, s, q, rfl⟩)
    exact ⟨this.1, by rw [this.2]; exact a2, a3⟩
  refine ⟨J.heap (ht'.fo hE pu') h1 h2 h3 (fun d s q => (hs d s q).1) (fun a d k x q => (hrt a d k x q).1), ht', fun d hd' => ⟨fun k q => ?_, fun k s q => ⟨((sl d hd').2.1 k s q).1, ?_⟩, fun k s q => ⟨((sl d hd').2.2 k s q).1, ?_⟩⟩, fun k x q => ?_, fun k k1 k2 k3 => ?_, hg, hnf⟩
  · exact slt _ ((sl d hd').1 k q) (fun c => ⟨0, d, k, by rw [lv0, if_pos ⟨hd', q⟩, pln0 c]⟩) (fun c => ⟨d, hd', c, .inl ⟨k, q, rfl⟩⟩)
  · exact slt _ ((sl d hd').2.1 k s q).2 (fun c => ⟨1, d, k, by rw [lv1, if_pos hd', q, Option.bind_some, pln0 c]⟩) (fun c => ⟨d, hd', c, .inr (.inl ⟨k, q⟩)⟩)
  · exact slt _ ((sl d hd').2.2 k s q).2 (fun c => absurd c ((sl d hd').2.2 k s q).1) (fun c => ⟨d, hd', c, .inr (.inr ⟨k, q⟩)⟩)
  · exact (at_ x (hh k x q) (.inl ⟨3, 0, k, by rw [lv3, if_pos rfl]; exact q⟩)).1
  · obtain ⟨a1, a2⟩ := hk k k1 k2 k3
    have := at_ _ a1 (.inl ⟨2, 0, k, by rw [lv2, if_pos ⟨rfl, k1, k2, k3⟩]⟩)
    exact ⟨this.1, by rw [this.2]; exact a2⟩
theorem lv_hand (hd : Nat → Option Nat) (x : Option Nat) : LvA fr nf na ak (fun i => if i = 0 then x else hd i) = upL (LvA fr nf na ak hd) 3 0 0 x := by
  funext a d k
  unfold upL
  by_cases c : a = 3
  · subst c
    rw [lv3, lv3]
    by_cases c1 : d = 0
    · by_cases c2 : k = 0
      · rw [if_pos c1, if_pos c2, if_pos ⟨rfl, c1, c2⟩]
      · rw [if_pos c1, if_neg c2, if_neg (fun q => c2 q.2.2), if_pos c1]
    · rw [if_neg c1, if_neg (fun q => c1 q.2.1), if_neg c1]
  · rw [if_neg (fun q => c q.1)]
    unfold LvA
    split
    · rfl
    · split
      · rfl
      · split
        · rfl
        · rw [if_neg (fun q => c q.1), if_neg (fun q => c q.1)]
/-- a new root comes into hand 0 -/
theorem MJ0.hand (I : MJ0 E H m ty fr nf na ak hd) {x : Nat} (h0 : hd 0 = none) (hx : Rt H x) (ha : (H x).1 ≠ 0) (hn : ∀ a d k, LvA fr nf na ak hd a d k ≠ some x) : MJ0 E H m ty fr nf na ak (fun i => if i = 0 then some x else hd i) := by
  obtain ⟨J, ht, sl, hh, hk, hg, hnf⟩ := I
  refine ⟨?_, ht, sl, fun k y q => ?_, hk, hg, hnf⟩
  · rw [lv_hand]
    exact J.inn 3 0 0 (by rw [lv3, if_pos rfl]; exact h0) hx hn
  · by_cases c : k = 0
    · simp only [if_pos c, Option.some.injEq] at q; rw [← q]; exact ha
    · simp only [if_neg c] at q; exact hh k y q
/-- new nodes, a tree with its root first, in hand 0 -/
theorem MJ0.fresh (I : MJ0 E H m ty fr nf na ak hd) (hE : EvOk E) {H' : Hp} {m' : Nat} {ty' : Nat → Nat} (hlt : m < m') (hold : ∀ v, v < m → H' v = H v ∧ ty' v = ty v) (hdead : ∀ v, m' ≤ v → H' v = (0, 0, 0, [])) (hb : ∀ i, m ≤ i → i < m' → (H' i).1 ≠ 0 ∧ LTm E (ty' i) (H' i) ((kds H' i).map ty') ∧ (kds H' i).Nodup ∧ E.2.1 (ty' i) ≤ 38 ∧ (∀ c, c ∈ kds H' i → i < c ∧ c < m') ∧ ∀ j, m ≤ j → j < m' → ∀ c, c ∈ kds H' i → c ∈ kds H' j → j = i) (h0 : hd 0 = none) : MJ0 E H' m' ty' fr nf na ak (fun i => if i = 0 then some m else hd i) := by
  have ht := I.2.1
  have inb : ∀ v c, c ∈ kds H' v → m ≤ v → v < c ∧ c < m' ∧ v < m' := by
    intro v c hc hv
    by_cases q : v < m'
    · have := (hb v hv q).2.2.2.2.1 c hc
      exact ⟨this.1, this.2, q⟩
    · rw [kds, hdead v (by omega)] at hc; exact absurd hc (by simp)
  have inl : ∀ v c, c ∈ kds H' v → v < m → c ∈ kds H v ∧ c < m := by
    intro v c hc hv
    rw [kds, (hold v hv).1] at hc
    exact ⟨hc, I.lt (ht.al hc).2⟩
  have ht' : HT E H' m' ty' := by
    refine ⟨fun v q => ?_, fun v q => ?_⟩
    · by_cases c : v < m
      · rw [(hold v c).1] at q ⊢; exact ht.1 v q
      · by_cases c2 : v < m'
        · exact absurd q (hb v (by omega) c2).1
        · exact hdead v (by omega)
    · by_cases c : v < m
      · have e := (hold v c).1
        rw [e] at q
        obtain ⟨a1, a2, a3, a4, a5⟩ := ht.2 v q
        have ek : kds H' v = kds H v := by unfold kds; rw [e]
        have em : (kds H v).map ty' = (kds H v).map ty := List.map_congr_left (fun x hx => (hold x (I.lt (a3 x hx))).2)
        rw [e, ek, em, (hold v c).2]
        exact ⟨by omega, a2, fun x hx => by rw [(hold x (I.lt (a3 x hx))).1]; exact a3 x hx, a4, a5⟩
      · have c2 : v < m' := by
          by_cases c2 : v < m'
          · exact c2
          · rw [hdead v (by omega)] at q; exact absurd rfl q
        obtain ⟨a1, a2, a3, a4, a5, a6⟩ := hb v (by omega) c2
        exact ⟨c2, a2, fun x hx => (hb x (by have := (a5 x hx).1; omega) (a5 x hx).2).1, a3, a4⟩
  have pu' : PU H' := by
    intro v w c hv hw
    by_cases cv : v < m
    · obtain ⟨b1, b2⟩ := inl v c hv cv
      by_cases cw : w < m
      · exact I.1.1.1 v w c b1 (inl w c hw cw).1
      · have := inb w c hw (by omega); omega
    · have p1 := inb v c hv (by omega)
      by_cases cw : w < m
      · have := (inl w c hw cw).2; omega
      · have p2 := inb w c hw (by omega)
        exact ((hb v (by omega) p1.2.2).2.2.2.2.2 w (by omega) p2.2.2 c hv hw).symm
  have rtm : ∀ x, (H x).1 ≠ 0 → Rt H x → Rt H' x := by
    intro x hx hr v hv
    by_cases c : v < m
    · exact hr v (inl v x hv c).1
    · have := inb v x hv (by omega)
      have := I.lt hx
      omega
  have J : MJ0 E H' m' ty' fr nf na ak hd := by
    refine I.hp hE ht' pu' (R := fun y => m ≤ y) (X := fun _ => False) (Dd := fun _ => False) (fun y q => ?_) (fun y q c hc => ?_) (fun y q c hc => ?_) (fun d s q => ?_) (fun a d k x q => ?_) (fun v q _ => ?_)
    · unfold kds; rw [(hold y (by omega)).1]
    · have := inb y c hc q
      exact ⟨by omega, fun f => f⟩
    · rw [kds, I.dead q] at hc; exact absurd hc (by simp)
    · have := I.lt (I.rfa q).1
      exact ⟨.inl (by omega), fun f => f⟩
    · exact ⟨rtm x (I.lva q) (I.1.2.1 _ _ _ _ q), fun f => f⟩
    · rw [(hold v (I.lt q)).1, (hold v (I.lt q)).2]; exact ⟨q, rfl⟩
  refine J.hand h0 (fun v hv => ?_) (hb m (Nat.le_refl _) hlt).1 (fun a d k q => ?_)
  · by_cases c : v < m
    · have := (inl v m hv c).2; omega
    · have := (inb v m hv (by omega)).1; omega
  · have := I.lt (I.lva q); omega
/-- hands become the parts of a new node, in hand 0 -/
theorem MJ0.pack (I : MJ0 E H m ty fr nf na ak hd) (hE : EvOk E) {cs : List Nat} {t k : Nat} {lo : Int64} (hc : ∀ c, c ∈ cs → ∃ i, hd i = some c) (hn : cs.Nodup) (hk : k ≠ 0) (ht : LTm E t (k, 0, lo, cs) (cs.map ty)) (hd40 : E.2.1 t ≤ 38) : MJ0 E (upH H m (k, 0, lo, cs)) (m + 1) (fun i => if i = m then t else ty i) fr nf na ak (fun i => if i = 0 then some m else none) := by
  have I0 : MJ0 E H m ty fr nf na ak (fun _ => none) := I.hands (fun k X q => absurd q (by simp))
  have hat : ∀ c, c ∈ cs → ∃ i, LvA fr nf na ak hd 3 0 i = some c := fun c h => by
    obtain ⟨i, q⟩ := hc c h
    exact ⟨i, by rw [lv3, if_pos rfl]; exact q⟩
  have hal : ∀ c, c ∈ cs → (H c).1 ≠ 0 ∧ c < m ∧ Rt H c := fun c h => by
    obtain ⟨i, q⟩ := hat c h
    exact ⟨I.lva q, I.lt (I.lva q), I.1.2.1 _ _ _ _ q⟩
  have hfr : ∀ c, c ∈ cs → ∀ d s, RfA fr nf d s → ¬ Sub H c s.1 := fun c h => by
    obtain ⟨i, q⟩ := hat c h
    exact I.1.free q (by decide) (by decide)
  have dm : (H m).1 = 0 := by rw [I.dead (Nat.le_refl m)]
  have ek : ∀ v, v ≠ m → kds (upH H m (k, 0, lo, cs)) v = kds H v := fun v q => by unfold kds; rw [upH_n q]
  have em : kds (upH H m (k, 0, lo, cs)) m = cs := by unfold kds; rw [upH_s]
  have etys : ∀ l : List Nat, (∀ c, c ∈ l → c < m) → l.map (fun i => if i = m then t else ty i) = l.map ty := fun l h => List.map_congr_left (fun x hx => by rw [if_neg (by have := h x hx; omega)])
  have ht' : HT E (upH H m (k, 0, lo, cs)) (m + 1) (fun i => if i = m then t else ty i) := by
    refine ⟨fun v q => ?_, fun v q => ?_⟩
    · by_cases c : v = m
      · subst c; rw [upH_s] at q; exact absurd q hk
      · rw [upH_n c] at q ⊢; exact I.2.1.1 v q
    · by_cases c : v = m
      · subst c
        rw [em, upH_s, etys cs (fun c h => (hal c h).2.1)]
        simp only [if_true]
        exact ⟨by omega, ht, fun c h => by rw [upH_n (by have := (hal c h).2.1; omega)]; exact (hal c h).1, hn, hd40⟩
      · rw [upH_n c] at q
        obtain ⟨a1, a2, a3, a4, a5⟩ := I.2.1.2 v q
        rw [ek v c, upH_n c, etys (kds H v) (fun x hx => I.lt (a3 x hx))]
        simp only [if_neg c]
        exact ⟨by omega, a2, fun x hx => by rw [upH_n (by have := I.lt (a3 x hx); omega)]; exact a3 x hx, a4, a5⟩
  have pu' : PU (upH H m (k, 0, lo, cs)) := by
    intro v w c hv hw
    by_cases cv : v = m
    · by_cases cw : w = m
      · rw [cv, cw]
      · subst cv; rw [em] at hv; rw [ek w cw] at hw
        exact absurd hw ((hal c hv).2.2 w)
    · by_cases cw : w = m
      · subst cw; rw [em] at hw; rw [ek v cv] at hv
        exact absurd hv ((hal c hw).2.2 v)
      · rw [ek v cv] at hv; rw [ek w cw] at hw
        exact I.1.1.1 v w c hv hw
  have J : MJ0 E (upH H m (k, 0, lo, cs)) (m + 1) (fun i => if i = m then t else ty i) fr nf na ak (fun _ => none) := by
    refine I0.hp hE ht' pu' (R := fun y => y = m ∨ ∃ c, c ∈ cs ∧ Sub H c y) (X := fun _ => False) (Dd := fun _ => False) (fun y q => ek y (fun e => q (.inl e))) (fun y q c h => ⟨?_, fun f => f⟩) (fun y q c h => ⟨?_, fun f => f⟩) (fun d s q => ⟨.inl (fun r => ?_), fun f => f⟩) (fun a d j x q => ⟨fun v hv => ?_, fun f => f⟩) (fun v q _ => ?_)
    · by_cases c1 : y = m
      · subst c1; rw [em] at h; exact .inr ⟨c, h, Sub.refl H c⟩
      · rw [ek y c1] at h
        rcases q with q | ⟨b, b1, b2⟩
        · exact absurd q c1
        · exact .inr ⟨b, b1, b2.trans (Sub.one h)⟩
    · rcases q with q | ⟨b, b1, b2⟩
      · subst q; exact absurd dm (I.2.1.al h).1
      · exact .inr ⟨b, b1, b2.trans (Sub.one h)⟩
    · rcases r with r | ⟨b, b1, b2⟩
      · have := I0.lt (I0.rfa q).1; omega
      · exact hfr b b1 d s q b2
    · by_cases c1 : v = m
      · subst c1; rw [em] at hv
        obtain ⟨i, p⟩ := hat x hv
        have q2 : LvA fr nf na ak hd a d j = some x := by
          have a4 := lv4 q
          by_cases c : a = 3
          · subst c
            rw [lv3] at q
            split at q <;> exact absurd q (by simp)
          · unfold LvA at q ⊢
            split
            · rename_i h; rw [if_pos h] at q; exact q
            · rename_i h; rw [if_neg h] at q
              split
              · rename_i h; rw [if_pos h] at q; exact q
              · rename_i h; rw [if_neg h] at q
                split
                · rename_i h; rw [if_pos h] at q; exact q
                · rename_i h; rw [if_neg h, if_neg (fun r => c r.1)] at q; exact absurd q (by simp)
        have := (I.1.2.2.1 _ _ _ _ _ _ _ p q2).1
        subst this
        rw [lv3] at q
        split at q <;> exact absurd q (by simp)
      · rw [ek v c1] at hv
        exact I0.1.2.1 _ _ _ _ q v hv
    · rw [upH_n (by have := I.lt q; omega)]
      simp only [if_neg (show v ≠ m by have := I.lt q; omega)]
      exact ⟨q, trivial⟩
  refine J.hand rfl (fun v hv => ?_) (by rw [upH_s]; exact hk) (fun a d j q => ?_)
  · by_cases c1 : v = m
    · subst c1; rw [em] at hv; have := (hal v hv).2.1; omega
    · rw [ek v c1] at hv; exact absurd dm (I.2.1.al hv).2
  · have := I.lt (I0.lva q); omega
end
