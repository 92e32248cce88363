/-! BOTH MACHINES SIDE BY SIDE: a call's beginning -/
def agH (b c : Nat) (kd : Nat → Nat) (hi lo : Nat → Int64) : Hp := fun i => if b ≤ i ∧ i < b + c then (kd (i - b), hi (i - b), lo (i - b), []) else (0, 0, 0, [])
def frA (u f c : Nat) (ps ts : Nat → Nat) : Nat → Fm := fun _ => ((u, f, 0), (fun k => if k < c then some (ps k, 0, ts k, 0, false) else none), (0, fun _ => (0, 0, 0, 0, false)), fun _ => none)
theorem agH_up {b c : Nat} {kd : Nat → Nat} {hi lo : Nat → Int64} : upH (agH b c kd hi lo) (b + c) (kd c, hi c, lo c, []) = agH b (c + 1) kd hi lo := by
  funext i
  by_cases q : i = b + c
  · subst q
    rw [upH_s]
    unfold agH
    rw [if_pos ⟨by omega, by omega⟩, show b + c - b = c by omega]
  · rw [upH_n q]
    unfold agH
    by_cases w : b ≤ i ∧ i < b + c
    · rw [if_pos w, if_pos ⟨w.1, by omega⟩]
    · rw [if_neg w, if_neg (by omega)]
theorem agH_k {b c : Nat} {kd : Nat → Nat} {hi lo : Nat → Int64} {i : Nat} : kds (agH b c kd hi lo) i = [] := by
  unfold kds agH
  split <;> rfl
theorem agH_a {b c : Nat} {kd : Nat → Nat} {hi lo : Nat → Int64} {i : Nat} (h : (agH b c kd hi lo i).1 ≠ 0) : b ≤ i ∧ i < b + c ∧ agH b c kd hi lo i = (kd (i - b), hi (i - b), lo (i - b), []) := by
  unfold agH at h ⊢
  by_cases w : b ≤ i ∧ i < b + c
  · rw [if_pos w]; exact ⟨w.1, w.2, rfl⟩
  · rw [if_neg w] at h; exact absurd rfl h
section
variable {E : Ev} {F n : Nat} {sh : Nat → Nat × Nat} {pk : Nat → Nat} {kt : Nat} {sl0 : Int32} {lim : Nat} {zr zc z : St} {na : Nat} {ak : Nat → Ask} {g : Nat} {H : Hp} {m : Nat} {cn : Nat → Nat} {ws : Nat → Int64 → Nat → Bool} {u f c : Nat} {kd ps ts : Nat → Nat} {hi lo : Nat → Int64} {cs cl : Nat → Nat → Nat}
theorem MJ.start (hk : ∀ i, i < c → 1 ≤ kd i ∧ kd i ≤ 5 ∧ LTm E (kd i) (kd i, hi i, lo i, []) []) (h38 : ∀ k, 1 ≤ k → k ≤ 5 → E.2.1 k ≤ 38) (hak : ∀ j, j < na → (ak j).1 ≠ 3) (hc : c ≤ 40) (hbs : bS ak na ≤ lS E ak na) (hac : AcOk E na ak) : MJ E (agH 0 c kd hi lo) c kd (frA u f c (fun k => k) kd) 1 na ak (fun _ => none) := by
  have lv : ∀ a d k X, LvA (frA u f c (fun k => k) kd) 1 na ak (fun _ => none) a d k = some X → a = 1 ∧ d = 0 ∧ k = X ∧ k < c := fun a d k X q => by
    unfold LvA at q
    by_cases a0 : a = 0
    · rw [if_pos a0] at q
      have : ¬ (d < 1 ∧ k < (frA u f c (fun k => k) kd d).2.2.1.1) := fun w => absurd w.2 (by show ¬ k < 0; omega)
      rw [if_neg this] at q; exact absurd q (by simp)
    · rw [if_neg a0] at q
      by_cases a1 : a = 1
      · rw [if_pos a1] at q
        by_cases d1 : d < 1
        · rw [if_pos d1] at q
          have q' : (if k < c then some ((k, 0, kd k, 0, false) : Sl) else none).bind pln = some X := q
          by_cases kc : k < c
          · rw [if_pos kc] at q'
            have : k = X := by simpa [pln] using q'
            exact ⟨a1, by omega, this, kc⟩
          · rw [if_neg kc] at q'; exact absurd q' (by simp)
        · rw [if_neg d1] at q; exact absurd q (by simp)
      · rw [if_neg a1] at q
        by_cases a2 : a = 2
        · rw [if_pos a2] at q
          by_cases w : d = 0 ∧ k < na ∧ (ak k).1 = 3 ∧ (ak k).2.2.2.2.1 = true
          · exact absurd w.2.2.1 (hak k w.2.1)
          · rw [if_neg w] at q; exact absurd q (by simp)
        · rw [if_neg a2] at q
          split at q <;> exact absurd q (by simp)
  have rf : ∀ d s, ¬ RfA (frA u f c (fun k => k) kd) 1 d s := fun d s w => by
    obtain ⟨w1, w2, w3⟩ := w
    rcases w3 with ⟨k, w3, _⟩ | ⟨k, w3⟩ | ⟨k, w3⟩
    · exact absurd w3 (by show ¬ k < 0; omega)
    · have w3' : (if k < c then some ((k, 0, kd k, 0, false) : Sl) else none) = some s := w3
      by_cases kc : k < c
      · rw [if_pos kc] at w3'
        have : s = (k, 0, kd k, 0, false) := by simpa using w3'.symm
        rw [this] at w2; exact absurd rfl w2
      · rw [if_neg kc] at w3'; exact absurd w3' (by simp)
    · exact absurd w3 (by show ¬ (none : Option Sl) = some s; simp)
  have gh : ∀ d k, ghA (frA u f c (fun k => k) kd) 1 d k = none := fun d k => by
    unfold ghA
    split <;> rfl
  refine ⟨⟨⟨fun v w x hx => by rw [agH_k] at hx; exact absurd hx (by simp), fun _ => 0, fun v x hx => by rw [agH_k] at hx; exact absurd hx (by simp)⟩, fun a d k X _ v hx => by rw [agH_k] at hx; exact absurd hx (by simp), fun a d k a' d' k' X q q' => ?_, fun d s w => absurd w (rf d s), fun d k gg q => by rw [gh] at q; exact absurd q (by simp), fun d k gg q => by rw [gh] at q; exact absurd q (by simp), fun d k j gg g' q => by rw [gh] at q; exact absurd q (by simp), fun d q => ?_⟩, ⟨fun v q => ?_, fun v q => ?_⟩, fun d hd => ⟨fun k hk => absurd hk (by show ¬ k < 0; omega), fun k s hs => ?_, fun k s hs => absurd hs (by show ¬ (none : Option Sl) = some s; simp)⟩, fun k x q => absurd q (by simp), fun k k1 k2 => absurd k2 (hak k k1), fun k _ => rfl, by omega, fun l nd hl => ?_, hac⟩
  · have l1 := lv _ _ _ _ q
    have l2 := lv _ _ _ _ q'
    omega
  · unfold rsA at q
    have : ¬ d + 1 < 1 := by omega
    simp [this] at q
  · unfold agH at q ⊢
    by_cases w : 0 ≤ v ∧ v < 0 + c
    · rw [if_pos w] at q
      have := (hk (v - 0) (by omega)).1
      have q' : kd (v - 0) = 0 := q
      omega
    · rw [if_neg w]
  · obtain ⟨a1, a2, a3⟩ := agH_a q
    rw [agH_k, a3]
    have h1 := hk v (by omega)
    refine ⟨by omega, by rw [Nat.sub_zero]; exact h1.2.2, fun x hx => absurd hx (by simp), by simp, h38 _ h1.1 h1.2.1⟩
  · have hs' : (if k < c then some ((k, 0, kd k, 0, false) : Sl) else none) = some s := hs
    by_cases kc : k < c
    · rw [if_pos kc] at hs'
      have e : s = (k, 0, kd k, 0, false) := by simpa using hs'.symm
      subst e
      refine ⟨by omega, ?_, rfl, .inl rfl⟩
      show (agH 0 c kd hi lo k).1 ≠ 0
      unfold agH
      rw [if_pos ⟨by omega, by omega⟩, Nat.sub_zero]
      have := (hk k kc).1
      show kd k ≠ 0
      omega
    · rw [if_neg kc] at hs'; exact absurd hs' (by simp)
  · cases l with
    | nil => show 0 + bS ak na ≤ _; omega
    | cons v l =>
      obtain ⟨h1, h2⟩ := hl v (by simp)
      have hv := h2.ind (P := fun v => v < c) (fun a d k X q => by have := lv _ _ _ _ q; omega) (fun y x _ hx => by rw [agH_k] at hx; exact absurd hx (by simp))
      have := hk v hv
      omega
/-- both stand at a call's beginning -/
theorem Sm.start (hk : ∀ i, i < c → 1 ≤ kd i ∧ kd i ≤ 5 ∧ LTm E (kd i) (kd i, hi i, lo i, []) []) (h38 : ∀ k, 1 ≤ k → k ≤ 5 → E.2.1 k ≤ 38) (hak : ∀ j, j < na → (ak j).1 ≠ 3) (hc : c ≤ 8) (hbs : bS ak na ≤ lS E ak na) (hac : AcOk E na ak) (rm : RM sh n zr (agH 0 c kd hi lo) c (frA u f c (fun k => k) kd) 1 na ak g lim) (cm : CM sh n zc pk kt (agH 1 c kd hi lo) (c + 1) sl0 (frA u f c (fun k => k) kd) cs (fun _ k => k + 1) 1 g lim) (cj : CJ zc na ak cn ws) : Sm E sh n pk kt sl0 lim 0 zr zc (agH 0 c kd hi lo) c kd (frA u f c (fun k => k) kd) 1 na ak g (agH 1 c kd hi lo) (c + 1) (fun i => i + 1) (fun _ => none) cs (fun _ k => k + 1) cn ws := by
  have al : ∀ v, (agH 0 c kd hi lo v).1 ≠ 0 → v < c ∧ 1 ≤ kd v ∧ kd v ≤ 5 := fun v q => by
    obtain ⟨a1, a2, a3⟩ := agH_a q
    have := hk v (by omega)
    omega
  refine ⟨MJ.start hk h38 hak (by omega) hbs hac, rm, cm, cj, ⟨fun v q h11 => ?_, fun v w _ _ _ _ e => Nat.succ.inj e, fun w t q => absurd q (by simp), fun w q => .inl ?_⟩, ⟨fun a d k s x q => ?_, fun a d k a' d' k' s s' x q q' r => ?_⟩, fun j hj h3 => absurd h3 (hak j hj), fun v q => by have := al v q; omega, fun j t q => absurd q (by simp), by omega, by omega⟩
  · obtain ⟨a1, a2, a3⟩ := al v q
    have e0 : agH 0 c kd hi lo v = (kd v, hi v, lo v, []) := by
      unfold agH; rw [if_pos ⟨by omega, by omega⟩, Nat.sub_zero]
    have e1 : agH 1 c kd hi lo (v + 1) = (kd v, hi v, lo v, []) := by
      unfold agH; rw [if_pos ⟨by omega, by omega⟩, Nat.add_sub_cancel]
    show CN _ _ _ v (agH 1 c kd hi lo (v + 1))
    refine .inr ⟨by omega, by rw [e0, e1], ?_, fun _ => by rw [e0, e1]; exact ⟨rfl, rfl⟩⟩
    rw [e1, agH_k]; rfl
  · obtain ⟨a1, a2, a3⟩ := agH_a q
    have := hk (w - 1) (by omega)
    refine ⟨w - 1, ?_, by omega, Nat.sub_add_cancel a1⟩
    unfold agH
    rw [if_pos ⟨by omega, by omega⟩, Nat.sub_zero]
    show kd (w - 1) ≠ 0
    omega
  · obtain ⟨v1, v2⟩ := Vs_c q
    rcases v2 with ⟨_, a2, _⟩ | ⟨a1, a2, a3⟩
    · exact absurd a2 (by show ¬ k < 0; omega)
    · have a2' : (if k < c then some ((k, 0, kd k, 0, false) : Sl) else none) = some s := a2
      by_cases kc : k < c
      · rw [if_pos kc] at a2'
        have e : s = (k, 0, kd k, 0, false) := by simpa using a2'.symm
        subst e
        exact ⟨fun _ => a3, fun z => absurd rfl z⟩
      · rw [if_neg kc] at a2'; exact absurd a2' (by simp)
  · obtain ⟨v1, v2⟩ := Vs_c q
    rcases v2 with ⟨_, a2, _⟩ | ⟨a1, a2, a3⟩
    · exact absurd a2 (by show ¬ k < 0; omega)
    · have a2' : (if k < c then some ((k, 0, kd k, 0, false) : Sl) else none) = some s := a2
      by_cases kc : k < c
      · rw [if_pos kc] at a2'
        have e : s = (k, 0, kd k, 0, false) := by simpa using a2'.symm
        subst e
        exact absurd rfl r
      · rw [if_neg kc] at a2'; exact absurd a2' (by simp)
end
