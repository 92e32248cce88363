/-! A RESOURCE'S ROWS on both sides, node by node: what is written out of them -/
theorem enc_ex {SF : Nat → List Nat} : ∀ (d u : Nat) (E : List Ent), TyE SF d E → ∃ H : Hp, Enc H d u E
  | 0, _, _, h => absurd h (by simp [TyE])
  | d + 1, u, E, h => by
    obtain ⟨e, Es, h1, h2, h3, h4, h5⟩ := h
    have kids : ∀ (Es : List (List Ent)) (a : Nat), (∀ x ∈ Es, TyE SF d x) → ∃ H : Hp, ∀ p ∈ (sts a Es).zip Es, Enc H d p.1 p.2 := by
      intro Es
      induction Es with
      | nil => intro a _; exact ⟨fun _ => (0, 0, 0, []), fun p hp => absurd hp (by simp [sts])⟩
      | cons x Es ih =>
        intro a hx
        obtain ⟨H1, q1⟩ := enc_ex d a x (hx x (List.mem_cons_self ..))
        obtain ⟨H2, q2⟩ := ih (a + x.length) (fun y hy => hx y (List.mem_cons_of_mem _ hy))
        refine ⟨fun i => if i < a + x.length then H1 i else H2 i, fun p hp => ?_⟩
        have hp' : p ∈ (a, x) :: (sts (a + x.length) Es).zip Es := hp
        rcases List.mem_cons.mp hp' with e | e
        · subst e
          exact Enc_of q1 (fun i i1 i2 => if_pos i2)
        · have b := sts_in _ _ p e
          exact Enc_of (q2 p e) (fun i i1 i2 => if_neg (by omega))
    obtain ⟨H, hH⟩ := kids Es (u + 1) h5
    refine ⟨fun i => if i = u then (e.1, e.2.1, e.2.2.1, (sts (u + 1) Es).reverse) else H i, e, Es, h1, h2, ⟨if_pos rfl, h4.inn.2.1⟩, fun p hp => ?_⟩
    have b := sts_in _ _ p hp
    exact Enc_of (hH p hp) (fun i i1 i2 => if_neg (by omega))
section
variable {γ : Type}
/-- what nodes i, i + 1, .. give -/
def rL (f : Nat → List γ) : Nat → Nat → List γ
  | 0, _ => []
  | m + 1, i => f i ++ rL f m (i + 1)
theorem rL_add (f : Nat → List γ) : ∀ (a b i : Nat), rL f (a + b) i = rL f a i ++ rL f b (i + a)
  | 0, b, i => by rw [Nat.zero_add, Nat.add_zero]; rfl
  | a + 1, b, i => by
    rw [show a + 1 + b = (a + b) + 1 by omega]
    show f i ++ rL f (a + b) (i + 1) = (f i ++ rL f a (i + 1)) ++ rL f b (i + (a + 1))
    rw [rL_add f a b (i + 1), List.append_assoc, show i + 1 + a = i + (a + 1) by omega]
variable {E : Ev} {Q Hx : Hp} {sz : Nat} {tq : Nat → Nat} {f : Nat → List γ} {g : Ent → List γ} {M : Nat → Nat → Prop}
theorem res_fold (hA : EvA E) (hq : TyQ E Q sz tq) (hM : ∀ p j, p < sz → tq p ≠ 11 → M p j → NdM Q tq Hx M p j)
    (hn : ∀ i (e : Ent), i < sz → tq i ≠ 256 → tq i ≠ 11 → e.1 = (Q i).1 → (¬ inn e.1 → e.2.1 = (Q i).2.1 ∧ e.2.2.1 = (Q i).2.2.1) → e.2.2.2.1 = (kds Q i).length → f i = g e)
    (hc : ∀ i (e : Ent), i + 1 < sz → tq i = 256 → kds Q i = [i + 1] → tq (i + 1) = 11 → e.1 = 10 → e.2.2.1 = (Q (i + 1)).2.2.1 → f i ++ f (i + 1) = g e) :
    ∀ (d j : Nat) (En : List Ent), Enc Hx d j En → ∀ D p u, Pre Q D p u → u ≤ sz → tq p ≠ 11 → M p j → rL f (u - p) p = En.flatMap g := by
  intro d
  induction d with
  | zero => intro j En h; exact absurd h (by simp [Enc])
  | succ d ih =>
    intro j En h D p u hp hu h11 hm
    obtain ⟨e, Es, h1, h2, ⟨h3, h3'⟩, h4⟩ := h
    cases D with
    | zero => exact absurd hp (by simp [Pre])
    | succ D =>
      have ge := Pre.ge _ _ _ hp
      obtain ⟨p1, p2, p3, p4⟩ := hp
      have psz : p < sz := by omega
      obtain ⟨q1, q2, q3, q4, q5, q6, q7, q8⟩ := hq p psz
      have ek : kds Hx j = (sts (j + 1) Es).reverse := by unfold kds; rw [h3]
      have ek1 : (Hx j).1 = e.1 := by rw [h3]
      have ek2 : (Hx j).2.1 = e.2.1 := by rw [h3]
      have ek3 : (Hx j).2.2.1 = e.2.2.1 := by rw [h3]
      have list : ∀ (Es : List (List Ent)) (cs : List Nat) (a b j' : Nat), PreL (Pre Q D) cs a b → b ≤ sz → cs.length = Es.length → (∀ (t c x : Nat), cs[t]? = some c → (sts j' Es)[t]? = some x → M c x) → (∀ q ∈ (sts j' Es).zip Es, Enc Hx d q.1 q.2) → (∀ c ∈ cs, tq c ≠ 11) → a ≤ b ∧ rL f (b - a) a = Es.flatten.flatMap g := by
        intro Es
        induction Es with
        | nil =>
          intro cs a b j' l1 l2 l3 l4 l5 l6
          cases cs with
          | nil =>
            have e : a = b := l1
            subst e
            rw [Nat.sub_self]
            exact ⟨Nat.le_refl _, rfl⟩
          | cons c cs => simp at l3
        | cons x Es ihE =>
          intro cs a b j' l1 l2 l3 l4 l5 l6
          cases cs with
          | nil => simp at l3
          | cons c cs =>
            obtain ⟨e, v, r1, r2⟩ := l1
            subst e
            have gv := Pre.ge _ _ _ r1
            obtain ⟨s1, s2⟩ := ihE cs v b (j' + x.length) r2 l2 (by simpa using l3) (fun t c' x' e1 e2 => l4 (t + 1) c' x' (by simpa using e1) (by simpa [sts] using e2)) (fun q hq' => l5 q (by
              show q ∈ (j', x) :: (sts (j' + x.length) Es).zip Es
              exact List.mem_cons_of_mem _ hq')) (fun c' hc' => l6 c' (List.mem_cons_of_mem _ hc'))
            have h0 := ih j' x (l5 (j', x) (by
              show (j', x) ∈ (j', x) :: (sts (j' + x.length) Es).zip Es
              exact List.mem_cons_self ..)) D c v r1 (by omega) (l6 c (List.mem_cons_self ..)) (l4 0 c j' (by simp) (by simp [sts]))
            refine ⟨by omega, ?_⟩
            rw [show b - c = (v - c) + (b - v) by omega, rL_add, h0, show c + (v - c) = v by omega, s2, List.flatten_cons, List.flatMap_append]
      rcases hM p j psz h11 hm with ⟨n1, n2, n3, ⟨c, n4, n5⟩, n6⟩ | ⟨n1, n2, n3, n4, n5⟩
      · have e0 : Es = [] := by
          have : (sts (j + 1) Es).reverse = [] := by rw [← ek]; exact n6
          have l := congrArg List.length this
          rw [List.length_reverse, sts_len] at l
          exact List.eq_nil_of_length_eq_zero l
        rw [n4] at p4
        obtain ⟨ec, u', r1, r2⟩ := p4
        have r2' : u' = u := r2
        subst r2' ec
        have gv := Pre.ge _ _ _ r1
        have t11 : tq (p + 1) = 11 := by
          rw [n4] at q2
          have q2' : LTm E (tq p) (Q p) [tq (p + 1)] := q2
          rw [n1] at q2'
          unfold LTm at q2'
          rcases q2' with w | w | w | w | w | w | w | w
          · omega
          · omega
          · omega
          · omega
          · omega
          · have := w.2.2.2.2
            simpa using this
          · omega
          · omega
        have kc : kds Q (p + 1) = [] := by
          have := (hq (p + 1) (by omega)).2.1
          rw [t11] at this
          unfold LTm at this
          rcases this with w | w | w | w | w | w | w | w
          · omega
          · omega
          · omega
          · omega
          · exact List.map_eq_nil_iff.mp w.2.2.2
          · omega
          · omega
          · omega
        have eu : u' = p + 2 := by
          cases D with
          | zero => exact absurd r1 (by simp [Pre])
          | succ D =>
            obtain ⟨_, _, _, r4⟩ := r1
            rw [kc] at r4
            have r4' : p + 1 + 1 = u' := r4
            omega
        subst eu
        rw [show p + 2 - p = 2 by omega, h1, e0]
        show f p ++ (f (p + 1) ++ []) = g e ++ []
        rw [List.append_nil, List.append_nil]
        exact hc p e (by omega) n1 n4 t11 (by rw [← ek1]; exact n2) (by rw [← ek3]; exact n5)
      · have kl : (kds Q p).length = Es.length := by
          rw [← n4, ek, List.length_reverse, sts_len]
        obtain ⟨s1, s2⟩ := list Es (kds Q p) (p + 1) u (j + 1) p4 hu kl (fun t c x e1 e2 => n5 t c x e1 (by rw [ek, List.reverse_reverse]; exact e2)) h4 (fun c hc' w => by
          have mem : tq c ∈ (kds Q p).map tq := List.mem_map_of_mem hc'
          rw [w] at mem
          unfold LTm at q2
          rcases q2 with w | w | w | w | w | w | w | w
          · rw [w.2.2.2.2] at mem; simp at mem
          · rw [w.2.2.2.2] at mem; simp at mem
          · rw [w.2.2.2] at mem; simp at mem
          · rw [w.2.2] at mem; simp at mem
          · exact h11 w.1
          · exact n1 w.1
          · rw [w.2.2.2.2.2.1] at mem; exact hA _ mem
          · exact q5 (by have := w.2.2.2.2.1 11 mem; have := w.1; omega))
        rw [show u - p = (u - (p + 1)) + 1 by omega, h1]
        show f p ++ rL f (u - (p + 1)) (p + 1) = g e ++ Es.flatten.flatMap g
        rw [s2, hn p e psz n1 h11 (by rw [← ek1]; exact n2) (fun q => by rw [← ek2, ← ek3]; exact n3 (by rw [← n2, ek1]; exact q)) (by rw [← h2, kl])]
end
