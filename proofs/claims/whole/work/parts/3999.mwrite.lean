/-! THE MACHINE'S STATE: writing, vectors, unpacking -/
section
variable {E : Ev} {H : Hp} {m : Nat} {ty : Nat → Nat} {fr : Nat → Fm} {nf na : Nat} {ak : Nat → Ask} {hd : Nat → Option Nat}
theorem lv_none {a d k x : Nat} (h : LvA fr nf na ak (fun _ => none) a d k = some x) : a ≠ 3 ∧ LvA fr nf na ak hd a d k = some x := by
  have a3 : a ≠ 3 := fun c => by
    subst c
    rw [lv3] at h
    split at h <;> exact absurd h (by simp)
  refine ⟨a3, ?_⟩
  unfold LvA at h ⊢
  split
  · rename_i h'; rw [if_pos h'] at h; exact h
  · rename_i h'; rw [if_neg h'] at h
    split
    · rename_i h'; rw [if_pos h'] at h; exact h
    · rename_i h'; rw [if_neg h'] at h
      split
      · rename_i h'; rw [if_pos h'] at h; exact h
      · rename_i h'; rw [if_neg h', if_neg (fun r => a3 r.1)] at h; exact absurd h (by simp)
theorem MJ0.held (I : MJ0 E H m ty fr nf na ak hd) {i x : Nat} (h : hd i = some x) : (H x).1 ≠ 0 ∧ Rt H x ∧ (∀ d s, RfA fr nf d s → ¬ Sub H x s.1) ∧ ∀ a d k, LvA fr nf na ak (fun _ => none) a d k ≠ some x := by
  have q : LvA fr nf na ak hd 3 0 i = some x := by rw [lv3, if_pos rfl]; exact h
  refine ⟨I.lva q, I.1.2.1 _ _ _ _ q, I.1.free q (by decide) (by decide), fun a d k p => ?_⟩
  have := lv_none (hd := hd) p
  exact this.1 (I.1.2.2.1 _ _ _ _ _ _ _ this.2 q).1
theorem MJ0.nohd (I : MJ0 E H m ty fr nf na ak hd) : MJ0 E H m ty fr nf na ak (fun _ => none) := I.hands (fun k X q => absurd q (by simp))
theorem Sub.kne {H : Hp} (f : Fo H) {N y c : Nat} (h : Sub H N y) (hc : c ∈ kds H y) : c ≠ N := by
  intro e
  subst e
  have := (Sub.one hc).anti f h
  subst this
  obtain ⟨_, mu, hm⟩ := f
  exact absurd (hm _ _ hc) (Nat.lt_irrefl _)
/-- the value in hand 0 is written where a sole reference points to -/
theorem MJ0.write (I : MJ0 E H m ty fr nf na ak hd) (hE : EvOk E) {x N : Nat} (hx : hd 0 = some x) (hN : (H N).1 ≠ 0) (ht : ty N = ty x) (hxN : ¬ Sub H x N) (hsole : ∀ d s, RfA fr nf d s → Sub H N s.1 → s.1 = N) : MJ0 E (upH (upH H N (H x)) x (0, 0, 0, [])) m ty fr nf na ak (fun _ => none) := by
  have I0 := I.nohd
  obtain ⟨xa, xr, xf, xn⟩ := I.held hx
  have f := I.1.1
  have hNx : ¬ Sub H N x := fun q => hxN (by rw [q.root xr]; exact Sub.refl H x)
  have ne : N ≠ x := fun e => hxN (by rw [e]; exact Sub.refl H x)
  have eN : (upH (upH H N (H x)) x (0, 0, 0, [])) N = H x := by rw [upH_n ne, upH_s]
  have ex : (upH (upH H N (H x)) x (0, 0, 0, [])) x = (0, 0, 0, []) := upH_s _ _ _
  have eo : ∀ v, v ≠ N → v ≠ x → (upH (upH H N (H x)) x (0, 0, 0, [])) v = H v := fun v q q' => by rw [upH_n q', upH_n q]
  generalize upH (upH H N (H x)) x (0, 0, 0, []) = H' at eN ex eo
  have kN : kds H' N = kds H x := by unfold kds; rw [eN]
  have kx : kds H' x = [] := by unfold kds; rw [ex]
  have ko : ∀ v, v ≠ N → v ≠ x → kds H' v = kds H v := fun v q q' => by unfold kds; rw [eo v q q']
  have alv : ∀ v, (H v).1 ≠ 0 → v ≠ x → (H' v).1 ≠ 0 := fun v q q' => by
    by_cases c : v = N
    · subst c; rw [eN]; exact xa
    · rw [eo v c q']; exact q
  have kne : ∀ v c, c ∈ kds H v → c ≠ x := fun v c hc e => by subst e; exact xr v hc
  have ht' : HT E H' m ty := by
    refine ⟨fun v q => ?_, fun v q => ?_⟩
    · by_cases c1 : v = x
      · subst c1; exact ex
      · by_cases c2 : v = N
        · subst c2; rw [eN] at q; exact absurd q xa
        · rw [eo v c2 c1] at q ⊢; exact I.2.1.1 v q
    · by_cases c1 : v = x
      · subst c1; rw [ex] at q; exact absurd rfl q
      · by_cases c2 : v = N
        · subst c2
          obtain ⟨a1, a2, a3, a4, a5⟩ := I.2.1.2 x xa
          rw [kN, eN, ht]
          exact ⟨I.lt hN, a2, fun c hc => alv c (a3 c hc) (kne x c hc), a4, a5⟩
        · rw [eo v c2 c1] at q
          obtain ⟨a1, a2, a3, a4, a5⟩ := I.2.1.2 v q
          rw [ko v c2 c1, eo v c2 c1]
          exact ⟨a1, a2, fun c hc => alv c (a3 c hc) (kne v c hc), a4, a5⟩
  have pu' : PU H' := by
    have fl : ∀ v c, c ∈ kds H' v → ∃ w, c ∈ kds H w ∧ (v = N → w = x) ∧ (v ≠ N → w = v ∧ v ≠ x) := by
      intro v c hc
      by_cases c1 : v = N
      · subst c1; rw [kN] at hc; exact ⟨x, hc, fun _ => rfl, fun q => absurd rfl q⟩
      · by_cases c2 : v = x
        · subst c2; rw [kx] at hc; exact absurd hc (by simp)
        · rw [ko v c1 c2] at hc; exact ⟨v, hc, fun q => absurd q c1, fun _ => ⟨rfl, c2⟩⟩
    intro v w c hv hw
    obtain ⟨v', v1, v2, v3⟩ := fl v c hv
    obtain ⟨w', w1, w2, w3⟩ := fl w c hw
    have e := f.1 _ _ _ v1 w1
    by_cases c1 : v = N
    · by_cases c2 : w = N
      · rw [c1, c2]
      · rw [v2 c1, (w3 c2).1] at e; exact absurd e.symm (w3 c2).2
    · by_cases c2 : w = N
      · rw [w2 c2, (v3 c1).1] at e; exact absurd e (v3 c1).2
      · rw [(v3 c1).1, (w3 c2).1] at e; exact e
  refine I0.hp hE ht' pu' (R := fun y => Sub H N y ∨ Sub H x y) (X := fun y => y = N) (Dd := fun y => y = x) (fun y q => ko y (fun e => q (.inl (by rw [e]; exact Sub.refl H N))) (fun e => q (.inr (by rw [e]; exact Sub.refl H x)))) (fun y q c hc => ?_) (fun y q c hc => ?_) (fun d s q => ⟨?_, fun e => xf d s q (by rw [e]; exact Sub.refl H x)⟩) (fun a d k v q => ⟨fun w hw => ?_, fun e => xn a d k (by rw [e] at q; exact q)⟩) (fun v q q' => ⟨alv v q q', rfl⟩)
  · by_cases c1 : y = N
    · subst c1
      rw [kN] at hc
      exact ⟨.inr (Sub.one hc), fun e => hxN (by rw [← e]; exact Sub.one hc)⟩
    · by_cases c2 : y = x
      · subst c2; rw [kx] at hc; exact absurd hc (by simp)
      · rw [ko y c1 c2] at hc
        rcases q with q | q
        · exact ⟨.inl (q.trans (Sub.one hc)), q.kne f hc⟩
        · exact ⟨.inr (q.trans (Sub.one hc)), fun e => hxN (by rw [← e]; exact q.trans (Sub.one hc))⟩
  · rcases q with q | q
    · exact ⟨.inl (q.trans (Sub.one hc)), q.kne f hc⟩
    · exact ⟨.inr (q.trans (Sub.one hc)), fun e => hxN (by rw [← e]; exact q.trans (Sub.one hc))⟩
  · by_cases c : Sub H N s.1
    · exact .inr (hsole d s q c)
    · exact .inl (fun r => by
        rcases r with r | r
        · exact c r
        · exact xf d s q r)
  · by_cases c1 : w = N
    · subst c1; rw [kN] at hw; exact I0.1.2.1 _ _ _ _ q _ hw
    · by_cases c2 : w = x
      · subst c2; rw [kx] at hw; exact absurd hw (by simp)
      · rw [ko w c1 c2] at hw; exact I0.1.2.1 _ _ _ _ q _ hw
/-- one node's parts are set: within what a sole reference points to -/
theorem MJ0.parts (I : MJ0 E H m ty fr nf na ak hd) (hE : EvOk E) {N : Nat} {cs : List Nat} (hN : (H N).1 ≠ 0) (h2 : LTm E (ty N) (setC (H N) cs) (cs.map ty)) (hn : cs.Nodup) (hcs : ∀ c, c ∈ cs → c ∈ kds H N ∨ (∃ i, hd i = some c) ∧ ¬ Sub H c N) (hsole : ∀ d s, RfA fr nf d s → Sub H N s.1 → s.1 = N) : MJ0 E (upH H N (setC (H N) cs)) m ty fr nf na ak (fun _ => none) := by
  have I0 := I.nohd
  have f := I.1.1
  have eN : kds (upH H N (setC (H N) cs)) N = cs := by unfold kds; rw [upH_s]; rfl
  have eo : ∀ v, v ≠ N → kds (upH H N (setC (H N) cs)) v = kds H v := fun v q => by unfold kds; rw [upH_n q]
  have al : ∀ v, ((upH H N (setC (H N) cs)) v).1 = (H v).1 := fun v => by
    by_cases c : v = N
    · subst c; rw [upH_s]; rfl
    · rw [upH_n c]
  have cal : ∀ c, c ∈ cs → (H c).1 ≠ 0 := fun c hc => by
    rcases hcs c hc with q | ⟨⟨i, q⟩, _⟩
    · exact (I.2.1.al q).2
    · exact (I.held q).1
  have ht' : HT E (upH H N (setC (H N) cs)) m ty := by
    refine ⟨fun v q => ?_, fun v q => ?_⟩
    · rw [al] at q
      rw [upH_n (fun e => hN (by rw [← e]; exact q))]; exact I.2.1.1 v q
    · rw [al] at q
      obtain ⟨a1, a2, a3, a4, a5⟩ := I.2.1.2 v q
      by_cases c : v = N
      · subst c
        rw [eN, upH_s]
        exact ⟨a1, h2, fun c hc => by rw [al]; exact cal c hc, hn, a5⟩
      · rw [eo v c, upH_n c]
        exact ⟨a1, a2, fun c hc => by rw [al]; exact a3 c hc, a4, a5⟩
  have key : ∀ c w, c ∈ cs → c ∈ kds H w → w = N := fun c w hc hw => by
    rcases hcs c hc with q | ⟨⟨i, q⟩, _⟩
    · exact f.1 _ _ _ hw q
    · exact absurd hw ((I.held q).2.1 w)
  have pu' : PU (upH H N (setC (H N) cs)) := by
    intro v w c hv hw
    by_cases cv : v = N
    · by_cases cw : w = N
      · rw [cv, cw]
      · subst cv; rw [eN] at hv; rw [eo w cw] at hw; exact absurd (key c w hv hw) cw
    · by_cases cw : w = N
      · subst cw; rw [eN] at hw; rw [eo v cv] at hv; exact absurd (key c v hw hv) cv
      · rw [eo v cv] at hv; rw [eo w cw] at hw; exact f.1 _ _ _ hv hw
  have R3 : ∀ y, (Sub H N y ∨ ∃ b, (∃ i, hd i = some b) ∧ ¬ Sub H b N ∧ Sub H b y) → ∀ c, c ∈ kds H y → (Sub H N c ∨ ∃ b, (∃ i, hd i = some b) ∧ ¬ Sub H b N ∧ Sub H b c) ∧ ¬ c = N := by
    intro y q c hc
    rcases q with q | ⟨b, b1, b2, b3⟩
    · exact ⟨.inl (q.trans (Sub.one hc)), q.kne f hc⟩
    · exact ⟨.inr ⟨b, b1, b2, b3.trans (Sub.one hc)⟩, fun e => b2 (by rw [← e]; exact b3.trans (Sub.one hc))⟩
  refine I0.hp hE ht' pu' (R := fun y => Sub H N y ∨ ∃ b, (∃ i, hd i = some b) ∧ ¬ Sub H b N ∧ Sub H b y) (X := fun y => y = N) (Dd := fun _ => False) (fun y q => eo y (fun e => q (.inl (by rw [e]; exact Sub.refl H N)))) (fun y q c hc => ?_) R3 (fun d s q => ⟨?_, fun e => e⟩) (fun a d k v q => ⟨fun w hw => ?_, fun e => e⟩) (fun v q q' => ⟨by rw [al]; exact q, rfl⟩)
  · by_cases c1 : y = N
    · subst c1
      rw [eN] at hc
      rcases hcs c hc with q | ⟨q, q'⟩
      · exact ⟨.inl (Sub.one q), (Sub.refl H y).kne f q⟩
      · exact ⟨.inr ⟨c, q, q', Sub.refl H c⟩, fun e => q' (by rw [e]; exact Sub.refl H y)⟩
    · rw [eo y c1] at hc; exact R3 y q c hc
  · by_cases c : Sub H N s.1
    · exact .inr (hsole d s q c)
    · refine .inl (fun r => ?_)
      rcases r with r | ⟨b, ⟨i, b1⟩, _, b3⟩
      · exact c r
      · exact (I.held b1).2.2.1 d s q b3
  · by_cases c1 : w = N
    · subst c1
      rw [eN] at hw
      rcases hcs v hw with p | ⟨⟨i, p⟩, _⟩
      · exact I0.1.2.1 _ _ _ _ q _ p
      · exact (I.held p).2.2.2 a d k q
    · rw [eo w c1] at hw; exact I0.1.2.1 _ _ _ _ q _ hw
/-- the last part of a node is taken into hand 0 -/
theorem MJ0.last (I : MJ0 E H m ty fr nf na ak hd) (hE : EvOk E) {N c : Nat} {cs : List Nat} (hN : (H N).1 ≠ 0) (hk : kds H N = cs ++ [c]) (h2 : LTm E (ty N) (setC (H N) cs) (cs.map ty)) (hsole : ∀ d s, RfA fr nf d s → Sub H N s.1 → s.1 = N) : MJ0 E (upH H N (setC (H N) cs)) m ty fr nf na ak (fun i => if i = 0 then some c else none) := by
  have nd := (I.2.1.2 N hN).2.2.2.1
  rw [hk] at nd
  have nc : c ∉ cs := fun q => (List.nodup_append.mp nd).2.2 c q c (by simp) rfl
  have hcN : c ∈ kds H N := by rw [hk]; simp
  have J := I.parts hE (cs := cs) hN h2 (List.nodup_append.mp nd).1 (fun b hb => .inl (by rw [hk]; simp [hb])) hsole
  refine J.hand rfl (fun v hv => ?_) ?_ (fun a d k q => ?_)
  · by_cases c1 : v = N
    · subst c1
      rw [kds, upH_s] at hv
      exact nc hv
    · rw [kds, upH_n c1] at hv
      exact c1 (I.1.1.1 v N c hv hcN)
  · have e : c ≠ N := (Sub.refl H N).kne I.1.1 hcN
    rw [upH_n e]; exact (I.2.1.al hcN).2
  · exact I.nohd.1.2.1 _ _ _ _ q N hcN
/-- two parts of what a sole reference points to change places -/
theorem MJ0.swap (I : MJ0 E H m ty fr nf na ak hd) (hE : EvOk E) {N p q : Nat} (hp : p ∈ kds H N) (hq : q ∈ kds H N) (ht : ty p = ty q) (hsole : ∀ d s, RfA fr nf d s → Sub H N s.1 → s.1 = N) : MJ0 E (upH (upH H p (H q)) q (H p)) m ty fr nf na ak hd := by
  have f := I.1.1
  have eq : (upH (upH H p (H q)) q (H p)) q = H p := upH_s _ _ _
  have ep : (upH (upH H p (H q)) q (H p)) p = H q := by
    by_cases c : p = q
    · subst c; rw [upH_s]
    · rw [upH_n c, upH_s]
  have eo : ∀ v, v ≠ p → v ≠ q → (upH (upH H p (H q)) q (H p)) v = H v := fun v a b => by rw [upH_n b, upH_n a]
  generalize upH (upH H p (H q)) q (H p) = H' at eq ep eo
  have pa := I.2.1.al hp
  have qa := I.2.1.al hq
  -- each node of H' is a node of H, by a change of names
  have mp : ∀ v, ∃ w, H' v = H w ∧ ty v = ty w ∧ (w = p → v = q) ∧ (w = q → v = p) ∧ (w ≠ p → w ≠ q → w = v) ∧ ((H v).1 ≠ 0 ↔ (H w).1 ≠ 0) ∧ (v < m → w < m) := by
    intro v
    by_cases c1 : v = p
    · subst c1
      exact ⟨q, ep, ht, fun e => e.symm, fun _ => rfl, fun _ h => absurd rfl h, ⟨fun _ => qa.2, fun _ => pa.2⟩, fun _ => I.lt qa.2⟩
    · by_cases c2 : v = q
      · subst c2
        exact ⟨p, eq, ht.symm, fun _ => rfl, fun e => e.symm, fun h _ => absurd rfl h, ⟨fun _ => pa.2, fun _ => qa.2⟩, fun _ => I.lt pa.2⟩
      · exact ⟨v, eo v c1 c2, rfl, fun e => absurd e c1, fun e => absurd e c2, fun _ _ => rfl, Iff.rfl, fun h => h⟩
  have al : ∀ v, (H' v).1 ≠ 0 ↔ (H v).1 ≠ 0 := fun v => by
    obtain ⟨w, e, _, _, _, _, h, _⟩ := mp v
    rw [e]; exact h.symm
  have ht' : HT E H' m ty := by
    refine ⟨fun v h => ?_, fun v h => ?_⟩
    · obtain ⟨w, e, _⟩ := mp v
      rw [e] at h ⊢
      exact I.2.1.1 w h
    · have hv := (al v).mp h
      obtain ⟨w, e, et, _, _, _, hw, _⟩ := mp v
      obtain ⟨a1, a2, a3, a4, a5⟩ := I.2.1.2 w (hw.mp hv)
      have ek : kds H' v = kds H w := by unfold kds; rw [e]
      rw [ek, e, et]
      exact ⟨I.lt hv, a2, fun c hc => (al c).mpr (a3 c hc), a4, a5⟩
  have pu' : PU H' := by
    intro v w c hv hw
    obtain ⟨v', e1, _, a1, a2, a3, _⟩ := mp v
    obtain ⟨w', e2, _, b1, b2, b3, _⟩ := mp w
    rw [kds, e1] at hv
    rw [kds, e2] at hw
    have e := f.1 _ _ _ hv hw
    subst e
    by_cases c1 : v' = p
    · rw [a1 c1, b1 c1]
    · by_cases c2 : v' = q
      · rw [a2 c2, b2 c2]
      · rw [← a3 c1 c2, ← b3 c1 c2]
  have R3 : ∀ y, Sub H N y → ∀ c, c ∈ kds H y → Sub H N c ∧ ¬ c = N := fun y h c hc => ⟨h.trans (Sub.one hc), h.kne f hc⟩
  refine I.hp hE ht' pu' (R := fun y => Sub H N y) (X := fun y => y = N) (Dd := fun _ => False) (fun y h => ?_) (fun y h c hc => ?_) R3 (fun d s h => ⟨?_, fun e => e⟩) (fun a d k v h => ⟨fun w hw => ?_, fun e => e⟩) (fun v h _ => ⟨(al v).mpr h, rfl⟩)
  · unfold kds
    rw [eo y (fun e => h (by rw [e]; exact Sub.one hp)) (fun e => h (by rw [e]; exact Sub.one hq))]
  · by_cases c1 : y = p
    · subst c1; rw [kds, ep] at hc; exact R3 q (Sub.one hq) c hc
    · by_cases c2 : y = q
      · subst c2; rw [kds, eq] at hc; exact R3 p (Sub.one hp) c hc
      · rw [kds, eo y c1 c2] at hc; exact R3 y h c hc
  · by_cases c : Sub H N s.1
    · exact .inr (hsole d s h c)
    · exact .inl c
  · obtain ⟨w', e2, _⟩ := mp w
    rw [kds, e2] at hw
    exact I.1.2.1 _ _ _ _ h _ hw
/-- the structure in hand 0 goes, its parts are in hands -/
theorem MJ0.unpack (I : MJ0 E H m ty fr nf na ak hd) (hE : EvOk E) {x : Nat} (hx : hd 0 = some x) : MJ0 E (upH H x (0, 0, 0, [])) m ty fr nf na ak (fun i => (kds H x)[i]?) := by
  have I0 := I.nohd
  obtain ⟨xa, xr, xf, xn⟩ := I.held hx
  have f := I.1.1
  have ex : kds (upH H x (0, 0, 0, [])) x = [] := by unfold kds; rw [upH_s]
  have eo : ∀ v, v ≠ x → kds (upH H x (0, 0, 0, [])) v = kds H v := fun v q => by unfold kds; rw [upH_n q]
  have kne : ∀ v c, c ∈ kds H v → c ≠ x := fun v c hc e => by subst e; exact xr v hc
  have ht' : HT E (upH H x (0, 0, 0, [])) m ty := by
    refine ⟨fun v q => ?_, fun v q => ?_⟩
    · by_cases c : v = x
      · subst c; exact upH_s _ _ _
      · rw [upH_n c] at q ⊢; exact I.2.1.1 v q
    · by_cases c : v = x
      · subst c; rw [upH_s] at q; exact absurd rfl q
      · rw [upH_n c] at q
        obtain ⟨a1, a2, a3, a4, a5⟩ := I.2.1.2 v q
        rw [eo v c, upH_n c]
        exact ⟨a1, a2, fun b hb => by rw [upH_n (kne v b hb)]; exact a3 b hb, a4, a5⟩
  have sub : ∀ v c, c ∈ kds (upH H x (0, 0, 0, [])) v → v ≠ x ∧ c ∈ kds H v := fun v c hc => by
    by_cases q : v = x
    · subst q; rw [ex] at hc; exact absurd hc (by simp)
    · rw [eo v q] at hc; exact ⟨q, hc⟩
  have pu' : PU (upH H x (0, 0, 0, [])) := fun v w c hv hw => f.1 _ _ _ (sub v c hv).2 (sub w c hw).2
  have J : MJ0 E (upH H x (0, 0, 0, [])) m ty fr nf na ak (fun _ => none) := by
    refine I0.hp hE ht' pu' (R := fun y => Sub H x y) (X := fun _ => False) (Dd := fun y => y = x) (fun y q => eo y (fun e => q (by rw [e]; exact Sub.refl H x))) (fun y q c hc => ⟨q.trans (Sub.one (sub y c hc).2), fun e => e⟩) (fun y q c hc => ⟨q.trans (Sub.one hc), fun e => e⟩) (fun d s q => ⟨.inl (xf d s q), fun e => xf d s q (by rw [e]; exact Sub.refl H x)⟩) (fun a d k v q => ⟨fun w hw => I0.1.2.1 _ _ _ _ q _ (sub w v hw).2, fun e => xn a d k (by rw [e] at q; exact q)⟩) (fun v q q' => ⟨by rw [upH_n q']; exact q, rfl⟩)
  have nd := (I.2.1.2 x xa).2.2.2.1
  obtain ⟨B, t1, t2, _, t4, t5, t6⟩ := J
  refine ⟨?_, t1, t2, fun k c q => ?_, t4, t5, t6⟩
  · have lvs : ∀ a d k c, LvA fr nf na ak (fun i => (kds H x)[i]?) a d k = some c → (a = 3 ∧ d = 0 ∧ (kds H x)[k]? = some c) ∨ (a ≠ 3 ∧ LvA fr nf na ak (fun _ => none) a d k = some c) := by
      intro a d k c q
      by_cases c3 : a = 3
      · subst c3
        rw [lv3] at q
        by_cases cd : d = 0
        · rw [if_pos cd] at q; exact .inl ⟨rfl, cd, q⟩
        · rw [if_neg cd] at q; exact absurd q (by simp)
      · refine .inr ⟨c3, ?_⟩
        unfold LvA at q ⊢
        split
        · rename_i h; rw [if_pos h] at q; exact q
        · rename_i h; rw [if_neg h] at q
          split
          · rename_i h; rw [if_pos h] at q; exact q
          · rename_i h; rw [if_neg h] at q
            split
            · rename_i h; rw [if_pos h] at q; exact q
            · rename_i h; rw [if_neg h, if_neg (fun r => c3 r.1)] at q; exact absurd q (by simp)
    have hnl : ∀ a d k c, LvA fr nf na ak (fun _ => none) a d k = some c → c ∉ kds H x := fun a d k c q hc => I0.1.2.1 _ _ _ _ q _ hc
    refine B.lv (fun a d k c q => ?_) (fun a d k a' d' k' c q q' => ?_) (fun a d k c h0 q => ?_)
    · rcases lvs a d k c q with ⟨_, _, h⟩ | ⟨_, h⟩
      · intro v hv
        obtain ⟨hv1, hv2⟩ := sub v c hv
        exact hv1 (f.1 _ _ _ hv2 (List.mem_of_getElem? h))
      · exact B.2.1 _ _ _ _ h
    · rcases lvs a d k c q with ⟨h1, h2, h⟩ | ⟨h1, h⟩
      · rcases lvs a' d' k' c q' with ⟨g1, g2, g⟩ | ⟨g1, g⟩
        · refine ⟨by rw [h1, g1], by rw [h2, g2], ?_⟩
          have k1 := (List.getElem?_eq_some_iff.mp h).1
          exact (List.getElem?_inj k1 nd).mp (by rw [h, g])
        · exact absurd (List.mem_of_getElem? h) (hnl _ _ _ _ g)
      · rcases lvs a' d' k' c q' with ⟨g1, g2, g⟩ | ⟨g1, g⟩
        · exact absurd (List.mem_of_getElem? g) (hnl _ _ _ _ h)
        · exact B.2.2.1 _ _ _ _ _ _ _ h g
    · exact .inl (lv_none q).2
  · have hc := List.mem_of_getElem? q
    rw [upH_n (kne x c hc)]
    exact (I.2.1.al hc).2
end
