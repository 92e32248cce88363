/-! THE WORLD OF MODULES: types are types -/
theorem PT.rep {ns : Nat} {s : Ty} (h : PT ns s) : ∀ k, PT ns (List.replicate k 7 ++ s)
  | 0 => h
  | k + 1 => by
    rw [List.replicate_succ, List.cons_append]
    exact PT_v (PT.rep h k)
section
variable {b : Nat → Nat} {len : Nat}
theorem jT_n {all p : Nat} {t : Ty} (hj : jT all p t = none) : ∀ x, endS t = some x → x < all := fun x q => by
  unfold jT at hj
  rw [q] at hj
  by_cases c : all ≤ x
  · have hj' : (if all ≤ x then some (7, p + t.length - 1) else none : Flt) = none := hj
    rw [if_pos c] at hj'; cases hj'
  · omega
theorem RdT.sty {p : Nat} {rf : Bool} {t : Ty} {all : Nat} (h : RdT b len p rf (t, p + t.length)) (hj : jT all p t = none) : STy all t ∧ (rf = false → PT all t) := by
  obtain ⟨_, _, _, _, r, k, s, e, hr, hk, hs⟩ := h
  have he := jT_n hj
  have e' : t = r ++ List.replicate k 7 ++ s := e
  have ps : PT all s := by
    rcases hs with ⟨c, hc, c1, c5⟩ | ⟨y, hy, _⟩
    · rw [hc]; exact ⟨c1, c5⟩
    · rw [hy]
      exact PT_s (he y (by rw [e', hy]; exact endS_6 y _))
  have pk := ps.rep k
  rcases hr with q | ⟨q0, q | q⟩
  · rw [q, List.nil_append] at e'
    rw [e']; exact ⟨.inl pk, fun _ => pk⟩
  · rw [q] at e'
    refine ⟨.inr ⟨8, List.replicate k 7 ++ s, .inl rfl, e'.trans rfl, pk⟩, fun w => ?_⟩
    rw [w] at q0; cases q0
  · rw [q] at e'
    refine ⟨.inr ⟨9, List.replicate k 7 ++ s, .inr rfl, e'.trans rfl, pk⟩, fun w => ?_⟩
    rw [w] at q0; cases q0
theorem AtL.sty {rf : Bool} {all : Nat} : ∀ (ts : List Ty) (p : Nat), AtL b len rf p ts → jTs all p ts = none → ∀ t, t ∈ ts → STy all t ∧ (rf = false → PT all t)
  | [], _, _, _, t, ht => by cases ht
  | u :: ts, p, h, hj, t, ht => by
    obtain ⟨j1, j2⟩ := orE_0 hj
    rcases List.mem_cons.mp ht with q | q
    · rw [q]; exact RdT.sty h.1 j1
    · exact AtL.sty ts (p + u.length) h.2 j2 t q
theorem jGp_s {own all fns els : Nat} {fds : Nat → Nat} {g : GP} (hg : GpP b len g) (hj : jGp b own all fds fns els g = none) : (∀ t, t ∈ g.2.2.1 → STy all t) ∧ (∀ t, t ∈ g.2.2.2.1 → STy all t) ∧ ∀ t, t ∈ g.2.2.2.2.1 → STy all t := by
  obtain ⟨_, _, _, ⟨g4, _⟩, ⟨g6, _⟩, g8, _⟩ := hg
  obtain ⟨j1, _⟩ := orE_0 hj
  obtain ⟨j3, j4⟩ := orE_0 j1
  obtain ⟨j5, j6⟩ := orE_0 j3
  exact ⟨fun t ht => (AtL.sty _ _ g4.2.2.2 j5 t ht).1, fun t ht => (AtL.sty _ _ g6.2.2.2 j6 t ht).1, fun t ht => (AtL.sty _ _ g8.2.2.2 j4 t ht).1⟩
end
/-- a module by itself -/
def SMd (U : Md) : Prop := (MdO U ∧ ∀ f, f < fsOf U → FnO U f) ∧ (∀ a, a < U.1.2.1 → 1 ≤ (fdsOf U a).length ∧ ∀ t, t ∈ fdsOf U a → PT U.1.2.2 t) ∧ (∀ t, t ∈ elsOf U → PT U.1.2.2 t) ∧ (∀ a, a < faOf U → (∀ t, t ∈ tksOf U a → STy U.1.2.2 t) ∧ ∀ t, t ∈ gvsOf U a → STy U.1.2.2 t) ∧ (∀ f, f < fsOf U → ∀ t, t ∈ locOf U f → STy U.1.2.2 t) ∧ (fsOf U ≤ faOf U ∧ fsOf U ≤ 64 ∧ faOf U ≤ 96 ∧ U.1.2.1 ≤ 32) ∧ U.1.1 < 65536 ∧ (∀ s, s < U.1.2.2 → U.2.2.2.1 s < 2 ^ 24) ∧ (∀ s, s < U.1.2.1 → U.2.2.2.1 s = 256 * U.1.1 + s) ∧ ∀ a, fsOf U ≤ a → a < faOf U → whoOf U a < 2 ^ 24
section
variable {b : Nat → Nat} {len : Nat} {M : MP}
theorem sMd_of (hb : ∀ q, q < len → b q < 256) (hp : PicOk b len M) (h6 : 6 ≤ len) (hj : jM b M = none) : SMd (mdOf b M) := by
  have hp' := hp
  obtain ⟨⟨p1, p2⟩, ⟨p3, p4⟩, ⟨p5, p6⟩, ⟨p7, p8⟩, p9, p10⟩ := hp
  obtain ⟨j1, j2⟩ := orE_0 hj
  obtain ⟨j3, j4⟩ := orE_0 j1
  obtain ⟨j5, j6⟩ := orE_0 j3
  have fo : ∀ g, g < M.2.2.2.2.length → fnOf (mdOf b M) g = (b (M.2.2.2.2.getD g dGP).1, (M.2.2.2.2.getD g dGP).2.2.1, (M.2.2.2.2.getD g dGP).2.2.2.1, (M.2.2.2.2.getD g dGP).2.2.2.2.1) := fun g c => by show (if g < M.2.2.2.2.length then _ else _ : Fn) = _; rw [if_pos c]
  have n4 : shB b 4 < 65536 := shB_lt (hb 4 (by omega)) (hb 5 (by omega))
  refine ⟨⟨mdO_of hb hp' hj, fun f hf => fnO_of hb hp' hj hf⟩, fun a ha => ?_, fun t ht => ?_, fun g hg => ?_, fun f hf t ht => ?_, ?_, n4, fun s hs => ?_, fun s hs => ?_, fun a ha ha2 => ?_⟩
  · have ha' : a < M.1.length := ha
    have q := p2 _ (getD_m (d := dSP) ha')
    refine ⟨q.2.2.2.2.1, fun t ht => ?_⟩
    exact (AtL.sty _ _ q.2.2.2.2.2.2 (jSs_n M.1 j5 _ (getD_m (d := dSP) ha')) t ht).2 rfl
  · have ht' : t ∈ M.2.2.2.1.map (fun e => e.2) := ht
    obtain ⟨e, he, rfl⟩ := List.mem_map.mp ht'
    exact (RdT.sty (p8 e he) (jEs_n _ j4 e he)).2 rfl
  · have hg' : g < M.2.2.2.2.length + M.2.2.1.length := hg
    by_cases c : g < M.2.2.2.2.length
    · have q := p10 _ (getD_m (d := dGP) c)
      obtain ⟨l1, l2, _⟩ := jGp_s q (jGs_n _ j2 _ (getD_m (d := dGP) c))
      unfold tksOf gvsOf
      rw [fo g c]
      exact ⟨l1, l2⟩
    · have c' : g - M.2.2.2.2.length < M.2.2.1.length := by omega
      have e : fnOf (mdOf b M) g = (b ((M.2.2.1.getD (g - M.2.2.2.2.length) dCP).1 + 3), (M.2.2.1.getD (g - M.2.2.2.2.length) dCP).2.1, (M.2.2.1.getD (g - M.2.2.2.2.length) dCP).2.2, []) := by show (if g < M.2.2.2.2.length then _ else _ : Fn) = _; rw [if_neg c]
      have q := p6 _ (getD_m (d := dCP) c')
      obtain ⟨k1, k2⟩ := jCs_n _ j6 _ (getD_m (d := dCP) c')
      unfold tksOf gvsOf
      rw [e]
      exact ⟨fun t ht => (AtL.sty _ _ q.2.2.1.1.2.2.2 k1 t ht).1, fun t ht => (AtL.sty _ _ q.2.2.2.1.2.2.2 k2 t ht).1⟩
  · have c : f < M.2.2.2.2.length := hf
    have q := p10 _ (getD_m (d := dGP) c)
    obtain ⟨l1, _, l3⟩ := jGp_s q (jGs_n _ j2 _ (getD_m (d := dGP) c))
    unfold locOf at ht
    rw [fo f c] at ht
    rcases List.mem_append.mp ht with w | w
    · exact l1 t w
    · exact l3 t w
  · show M.2.2.2.2.length ≤ M.2.2.2.2.length + M.2.2.1.length ∧ M.2.2.2.2.length ≤ 64 ∧ M.2.2.2.2.length + M.2.2.1.length ≤ 96 ∧ M.1.length ≤ 32
    omega
  · have hs' : s < M.1.length + M.2.1.length := hs
    show (if s < M.1.length then 256 * shB b 4 + s else 256 * shB b (M.2.1.getD (s - M.1.length) 0) + b (M.2.1.getD (s - M.1.length) 0 + 2)) < 2 ^ 24
    by_cases c : s < M.1.length
    · rw [if_pos c]; omega
    · rw [if_neg c]
      have q := (p4 _ (getD_m (d := 0) (show s - M.1.length < M.2.1.length by omega))).1
      have n1 : shB b (M.2.1.getD (s - M.1.length) 0) < 65536 := shB_lt (hb _ (by omega)) (hb _ (by omega))
      have n2 := hb (M.2.1.getD (s - M.1.length) 0 + 2) (by omega)
      omega
  · have hs' : s < M.1.length := hs
    show (if s < M.1.length then 256 * shB b 4 + s else _) = 256 * shB b 4 + s
    rw [if_pos hs']
  · have h1 : M.2.2.2.2.length ≤ a := ha
    have h2 : a < M.2.2.2.2.length + M.2.2.1.length := ha2
    have q := (p6 _ (getD_m (d := dCP) (show a - M.2.2.2.2.length < M.2.2.1.length by omega))).1
    show 256 * shB b (M.2.2.1.getD (a - M.2.2.2.2.length) dCP).1 + b ((M.2.2.1.getD (a - M.2.2.2.2.length) dCP).1 + 2) < 2 ^ 24
    have n1 : shB b (M.2.2.1.getD (a - M.2.2.2.2.length) dCP).1 < 65536 := shB_lt (hb _ (by omega)) (hb _ (by omega))
    have n2 := hb ((M.2.2.1.getD (a - M.2.2.2.2.length) dCP).1 + 2) (by omega)
    omega
end
/-! types that are said to be the same are the same -/
theorem PT.shape {ns : Nat} : ∀ {t : Ty}, PT ns t → ∃ k, (∃ c, t = List.replicate k 7 ++ [c] ∧ 1 ≤ c ∧ c ≤ 5) ∨ ∃ s, t = List.replicate k 7 ++ [6, s] ∧ s < ns
  | [], h => h.elim
  | [c], h => ⟨0, .inl ⟨c, rfl, h.1, h.2⟩⟩
  | a :: b :: t, h => by
    rcases h with ⟨h1, h2, h3⟩ | ⟨h1, h2⟩
    · subst h1; subst h3; exact ⟨0, .inr ⟨b, rfl, h2⟩⟩
    · subst h1
      obtain ⟨k, q⟩ := PT.shape h2
      refine ⟨k + 1, ?_⟩
      rcases q with ⟨c, e, q⟩ | ⟨s, e, q⟩
      · exact .inl ⟨c, by rw [e]; rfl, q⟩
      · exact .inr ⟨s, by rw [e]; rfl, q⟩
theorem STy.shape {ns : Nat} {t : Ty} (h : STy ns t) : ∃ r k, (r = [] ∨ r = [8] ∨ r = [9]) ∧ ((∃ c, t = r ++ List.replicate k 7 ++ [c] ∧ 1 ≤ c ∧ c ≤ 5) ∨ ∃ s, t = r ++ List.replicate k 7 ++ [6, s] ∧ s < ns) := by
  rcases h with h | ⟨r, p, hr, e, h⟩
  · obtain ⟨k, q⟩ := h.shape
    exact ⟨[], k, .inl rfl, q⟩
  · obtain ⟨k, q⟩ := h.shape
    refine ⟨[r], k, .inr (hr.imp (fun q => by rw [q]) (fun q => by rw [q])), ?_⟩
    rcases q with ⟨c, e', q⟩ | ⟨s, e', q⟩
    · exact .inl ⟨c, by rw [e, e']; rfl, q⟩
    · exact .inr ⟨s, by rw [e, e']; rfl, q⟩
theorem tV_pre : ∀ (l m : Ty), (∀ x, x ∈ l → 1 ≤ x ∧ x < 256) → (∀ x, x ∈ m → 1 ≤ x ∧ x < 256) → tV l = tV m → l = m := by
  have key : ∀ (n : Nat) (l m : Ty), l.length ≤ n → (∀ x, x ∈ l → 1 ≤ x ∧ x < 256) → (∀ x, x ∈ m → 1 ≤ x ∧ x < 256) → tV l = tV m → l = m := by
    intro n
    induction n with
    | zero =>
      intro l m hn _ hm e
      have : l = [] := List.eq_nil_of_length_eq_zero (by omega)
      subst this
      rcases List.eq_nil_or_concat m with q | ⟨m', x, q⟩
      · rw [q]
      · rw [q, List.concat_eq_append, tV_app] at e
        have := hm x (by rw [q]; simp)
        have e0 : tV [] = 0 := rfl
        omega
    | succ n ih =>
      intro l m hn hl hm e
      rcases List.eq_nil_or_concat l with q | ⟨l', x, q⟩
      · subst q
        rcases List.eq_nil_or_concat m with q | ⟨m', x, q⟩
        · rw [q]
        · rw [q, List.concat_eq_append, tV_app] at e
          have := hm x (by rw [q]; simp)
          have e0 : tV [] = 0 := rfl
          omega
      · rcases List.eq_nil_or_concat m with p | ⟨m', y, p⟩
        · subst p
          rw [q, List.concat_eq_append, tV_app] at e
          have := hl x (by rw [q]; simp)
          have e0 : tV [] = 0 := rfl
          omega
        · have hx := hl x (by rw [q]; simp)
          have hy := hm y (by rw [p]; simp)
          rw [q, p, List.concat_eq_append, List.concat_eq_append, tV_app, tV_app] at e
          have := ih l' m' (by rw [q] at hn; simp at hn; omega) (fun z hz => hl z (by rw [q]; simp [hz])) (fun z hz => hm z (by rw [p]; simp [hz])) (by omega)
          rw [q, p, this, show x = y by omega]
  exact fun l m => key l.length l m (Nat.le_refl _)
theorem sT_rep {id : Nat → Nat} {s : Ty} (hs : s ≠ []) : ∀ k, sT id (List.replicate k 7 ++ s) = 2 ^ 32 * k + sT id s
  | 0 => by simp
  | k + 1 => by
    have ih := sT_rep (id := id) hs k
    rw [List.replicate_succ, List.cons_append]
    cases e : List.replicate k 7 ++ s with
    | nil => simp at e; exact absurd e.2 hs
    | cons a t =>
      have e1 : sT id (7 :: a :: t) = 2 ^ 32 + sT id (a :: t) := by simp [sT]
      rw [e1, ← e, ih]; omega
theorem sT_r {id : Nat → Nat} {r s : Ty} (hr : r = [] ∨ r = [8] ∨ r = [9]) (hs : s ≠ []) : sT id (r ++ s) = sT id s := by
  cases s with
  | nil => exact absurd rfl hs
  | cons a t => rcases hr with q | q | q <;> subst q <;> simp [sT]
theorem tySb_s {U U' : Md} {ns ns' : Nat} {t t' : Ty} (h : STy ns t) (h' : STy ns' t') (hn : ns ≤ 64) (hn' : ns' ≤ 64) (q : tySb U U' t t' = true) : TyS U U' t t' ∧ (∃ r k, (r = [] ∨ r = [8] ∨ r = [9]) ∧ ((∃ c, t = r ++ List.replicate k 7 ++ [c] ∧ t' = t) ∨ ∃ s s', t = r ++ List.replicate k 7 ++ [6, s] ∧ t' = r ++ List.replicate k 7 ++ [6, s'] ∧ s < ns ∧ U.2.2.2.1 s = U'.2.2.2.1 s')) := by
  obtain ⟨r, k, hr, hs⟩ := h.shape
  obtain ⟨r', k', hr', hs'⟩ := h'.shape
  have big : ∀ (r : Ty) (k : Nat), (r = [] ∨ r = [8] ∨ r = [9]) → ∀ x, x ∈ r ++ List.replicate k 7 → 7 ≤ x ∧ x ≤ 9 := fun r k hr x hx => by
    rcases List.mem_append.mp hx with w | w
    · rcases hr with e | e | e
      · rw [e] at w; cases w
      · rw [e] at w; have := List.mem_singleton.mp w; omega
      · rw [e] at w; have := List.mem_singleton.mp w; omega
    · have := List.eq_of_mem_replicate w; omega
  have b1 := big r k hr
  have b2 := big r' k' hr'
  have pre : ∀ (l : Ty), (∀ x, x ∈ l → 7 ≤ x ∧ x ≤ 9) → tV l % 256 ≠ 6 := fun l hl => by
    rcases List.eq_nil_or_concat l with w | ⟨l', x, w⟩
    · rw [w]; exact (by decide)
    · have := hl x (by rw [w]; simp)
      rw [w, List.concat_eq_append, tV_app]; omega
  have p1 := pre _ b1
  have p2 := pre _ b2
  have same := tV_pre (r ++ List.replicate k 7) (r' ++ List.replicate k' 7) (fun x hx => by have := b1 x hx; omega) (fun x hx => by have := b2 x hx; omega)
  generalize hA : r ++ List.replicate k 7 = A at *
  generalize hB : r' ++ List.replicate k' 7 = B at *
  unfold tySb at q
  rw [Bool.and_eq_true] at q
  obtain ⟨q1, q2⟩ := q
  have q1 := of_decide_eq_true q1
  have six : ∀ (A : Ty) (s : Nat), tV (A ++ [6, s]) = 256 * (256 * tV A + 6) + s := fun A s => by
    rw [show A ++ [6, s] = (A ++ [6]) ++ [s] by simp, tV_app, tV_app]
  have hdA : ∀ (A x y : Ty), x ≠ [] → y ≠ [] → hdT x = hdT y ∨ (hdT x < 8 ∧ hdT y < 8) → sR (A ++ x) = sR (A ++ y) := fun A x y hx hy hh => by
    cases A with
    | cons a A => rfl
    | nil =>
      rw [List.nil_append, List.nil_append]
      unfold sR isR
      rcases hh with hh | ⟨h1, h2⟩
      · rw [hh]
      · rw [show (hdT x == 8 || hdT x == 9) = false by rw [beq_eq_false_iff_ne.mpr (by omega), beq_eq_false_iff_ne.mpr (by omega)]; rfl, show (hdT y == 8 || hdT y == 9) = false by rw [beq_eq_false_iff_ne.mpr (by omega), beq_eq_false_iff_ne.mpr (by omega)]; rfl]; rfl
  have sTA : ∀ (id : Nat → Nat) (x : Ty), x ≠ [] → sT id (A ++ x) = 2 ^ 32 * k + sT id x := fun id x hx => by
    rw [← hA, List.append_assoc, sT_r hr (by simp [hx]), sT_rep hx]
  rcases hs with ⟨c, e, c1, c2⟩ | ⟨s, e, s1⟩
  · rcases hs' with ⟨c', e', c1', c2'⟩ | ⟨s', e', s1'⟩
    · rw [e, e', tV_app, tV_app] at q1 q2
      have eA : A = B := same (by omega)
      rw [if_neg (show ¬ (256 * tV A + c) / 256 % 256 = 6 by rw [show (256 * tV A + c) / 256 = tV A by omega]; exact p1)] at q2
      have q2 := of_decide_eq_true q2
      rw [← eA] at q2 e'
      have ec : c = c' := by omega
      have et : t' = t := by rw [e, e', ec]
      refine ⟨⟨by rw [et], ?_⟩, r, k, hr, .inl ⟨c, by rw [hA]; exact e, et⟩⟩
      rw [et, e, sTA _ [c] (by simp), sTA _ [c] (by simp)]
      simp [sT]
    · rw [e, e', tV_app, six] at q1
      exact absurd (show tV A % 256 = 6 by omega) p1
  · rcases hs' with ⟨c', e', c1', c2'⟩ | ⟨s', e', s1'⟩
    · rw [e, e', tV_app, six] at q1
      exact absurd (show tV B % 256 = 6 by omega) p2
    · rw [e, e', six, six] at q1 q2
      have eA : A = B := same (by omega)
      rw [if_pos (show (256 * (256 * tV A + 6) + s) / 256 % 256 = 6 by omega)] at q2
      have q2 := of_decide_eq_true q2
      rw [show (256 * (256 * tV A + 6) + s) % 256 = s by omega, show (256 * (256 * tV B + 6) + s') % 256 = s' by omega] at q2
      rw [← eA] at e'
      refine ⟨⟨by rw [e, e']; exact hdA A [6, s] [6, s'] (by simp) (by simp) (.inl rfl), ?_⟩, r, k, hr, .inr ⟨s, s', by rw [hA]; exact e, by rw [hA]; exact e', s1, q2⟩⟩
      rw [e, e', sTA _ [6, s] (by simp), sTA _ [6, s'] (by simp), sT_s, sT_s, q2]
