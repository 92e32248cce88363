/-! THE WORLD OF MODULES: the machine's world -/
section
variable {ws : Nat → Md} {wc : Nat} {dp : Nat → Nat → Nat} {led : Nat → Int64 → Nat → Nat}
theorem dT_le28 {D : Nat → Nat} {ns : Nat} {t : Ty} (h : PT ns t) (hl : t.length ≤ 6) (hD : ∀ s, s < ns → D s ≤ 24) : dT D t ≤ 28 := by
  unfold dT
  obtain ⟨k, ⟨c, q, c1, c2⟩ | ⟨s, q, s1⟩⟩ := h.shape
  · have e1 : endS t = none := by rw [q]; exact endS_n c _ (fun x hx => by have := List.eq_of_mem_replicate hx; omega)
    rw [e1]
    show t.length ≤ 28
    omega
  · have e1 : endS t = some s := by rw [q]; exact endS_6 s _
    rw [e1]
    show D s + (t.length - 2) ≤ 28
    have := hD s s1
    omega
theorem SWo.uOk (h : SWo ws wc dp) {u : Nat} (h1 : 1 ≤ u) (hu : u ≤ wc) : UOk (evW ws wc dp led) u (ws u) := by
  obtain ⟨sm, d24, hm, wk, dpt, n0⟩ := h.2.2.2 u hu
  obtain ⟨n0, hf, hv⟩ := n0 h1
  obtain ⟨⟨mo, fo⟩, s1, s2, s3, s4, ⟨s5, s6, s7, s8⟩, s9, s10, s11, s12⟩ := sm
  refine ⟨fun k k1 k2 => ?_, fun t ht => ⟨s2 t ht, ?_, sT_n11 (s2 t ht)⟩, fun a ha => ?_, fun a ha => ?_, fun f => rfl, mo.2.1.1, ?_, fun t ht hc => h.nc hu ht hc⟩
  · show dE ws wc dp k ≤ 38
    unfold dE
    rw [show k % 2 ^ 32 = k by omega, show k / 2 ^ 32 = 0 by omega, if_pos (by omega), if_neg (by omega)]; omega
  · show dE ws wc dp (2 ^ 32 + sT (ws u).2.2.2.1 t) ≤ 38
    have e : dE ws wc dp (2 ^ 32 + sT (ws u).2.2.2.1 t) = dE ws wc dp (sT (ws u).2.2.2.1 t) + 1 := by
      unfold dE
      rw [show (2 ^ 32 + sT (ws u).2.2.2.1 t) % 2 ^ 32 = sT (ws u).2.2.2.1 t % 2 ^ 32 by omega, show (2 ^ 32 + sT (ws u).2.2.2.1 t) / 2 ^ 32 = sT (ws u).2.2.2.1 t / 2 ^ 32 + 1 by omega]; omega
    rw [e, h.dEt hu (s2 t ht)]
    have := dT_le28 (D := fun x => dM ws wc dp ((ws u).2.2.2.1 x)) (s2 t ht) (mo.2.2.2.1 t ht).2.2 (fun s _ => h.dM24 _)
    omega
  · obtain ⟨o1, o2⟩ := h.own hu ha
    have e := s11 a ha
    have il := s10 a (by have := mo.2.1.1; omega)
    refine ⟨by omega, il, ?_, (s1 a ha).2, ?_, (s1 a ha).1, by have := (mo.2.2.1 a ha).1; omega⟩
    · show fM ws wc ((ws u).2.2.2.1 a) = _
      rw [(h.fMo (dp := dp) o1 (by rw [o2]; exact ha)).1, o2]
    · show dE ws wc dp (256 + (ws u).2.2.2.1 a) ≤ 38
      unfold dE
      rw [show (256 + (ws u).2.2.2.1 a) % 2 ^ 32 = 256 + (ws u).2.2.2.1 a by omega, show (256 + (ws u).2.2.2.1 a) / 2 ^ 32 = 0 by omega, if_neg (by omega)]
      have := h.dM24 (256 + (ws u).2.2.2.1 a - 256)
      omega
  · show 48 + (ws u).2.2.2.1 a % 256 % 15 = 48 + a % 15
    rw [(h.own hu ha).2]
  · show dE ws wc dp (2 ^ 32 + 2) ≤ 38
    have : dE ws wc dp (2 ^ 32 + 2) = 2 := rfl
    omega
theorem same_l {U U' : Md} {a f : Nat} (h : sameLs U a U' f = true) : (tksOf U a).length = (tksOf U' f).length ∧ (gvsOf U a).length = (gvsOf U' f).length ∧ (∀ k, k < (tksOf U a).length → tySb U U' ((tksOf U a).getD k []) ((tksOf U' f).getD k []) = true) ∧ ∀ k, k < (gvsOf U a).length → tySb U U' ((gvsOf U a).getD k []) ((gvsOf U' f).getD k []) = true := by
  unfold sameLs at h
  rw [Bool.and_eq_true, Bool.and_eq_true] at h
  obtain ⟨h1, h2, h3⟩ := h
  have h1 := of_decide_eq_true h1
  have h2 := of_decide_eq_true h2
  have h3 := (fbad_n _ _ _).mp h3
  have ll : (tgl U a).length = (tksOf U a).length + (gvsOf U a).length := by unfold tgl; rw [List.length_append]
  have gl : ∀ (U : Md) (a k : Nat), k < (tksOf U a).length → (tgl U a).getD k [] = (tksOf U a).getD k [] := fun U a k hk => by
    unfold tgl
    rw [List.getD_eq_getElem?_getD, List.getElem?_append_left hk, ← List.getD_eq_getElem?_getD]
  have gr : ∀ (U : Md) (a k : Nat), (tgl U a).getD ((tksOf U a).length + k) [] = (gvsOf U a).getD k [] := fun U a k => by
    unfold tgl
    rw [List.getD_eq_getElem?_getD, List.getElem?_append_right (by omega), ← List.getD_eq_getElem?_getD, show (tksOf U a).length + k - (tksOf U a).length = k by omega]
  refine ⟨h1, h2, fun k hk => ?_, fun k hk => ?_⟩
  · have := h3 k (by omega) (by omega)
    rw [gl U a k hk, gl U' f k (by omega)] at this
    exact this
  · have := h3 ((tksOf U a).length + k) (by omega) (by omega)
    rw [gr U a k, h1, gr U' f k] at this
    exact this
theorem len1 {α : Type} {l : List α} (h : l.length = 1) : ∃ a, l = [a] := by
  match l, h with
  | [a], _ => exact ⟨a, rfl⟩
theorem len2 {α : Type} {l : List α} (h : l.length = 2) : ∃ a b, l = [a, b] := by
  match l, h with
  | [a, b], _ => exact ⟨a, b, rfl⟩
theorem ty_p {U U' : Md} {ns ns' c : Nat} {t : Ty} (h : STy ns t) (hn : ns ≤ 64) (hn' : ns' ≤ 64) (c1 : 1 ≤ c) (c2 : c ≤ 5) (q : tySb U U' t [c] = true) : t = [c] := by
  obtain ⟨_, r, k, hr, ⟨x, e1, e2⟩ | ⟨s, s', e1, e2, _⟩⟩ := tySb_s (ns' := ns') h (.inl (show PT ns' [c] from ⟨c1, c2⟩)) hn hn' q
  · exact e2.symm
  · have := congrArg List.length e2
    simp at this
    omega
theorem ty_s {U U' : Md} {ns ns' c : Nat} {t : Ty} (h : STy ns t) (hn : ns ≤ 64) (hn' : ns' ≤ 64) (hc : c < ns') (q : tySb U U' t [6, c] = true) : ∃ k, t = [6, k] ∧ k < ns ∧ U.2.2.2.1 k = U'.2.2.2.1 c := by
  obtain ⟨_, r, k, hr, ⟨x, e1, e2⟩ | ⟨s, s', e1, e2, e3, e4⟩⟩ := tySb_s (ns' := ns') h (.inl (PT_s hc)) hn hn' q
  · have e3 : [6, c] = r ++ List.replicate k 7 ++ [x] := e2.trans e1
    have e4 : [6] = r ++ List.replicate k 7 := by
      have := congrArg List.dropLast e3
      simpa using this
    exfalso
    rcases hr with w | w | w
    · rw [w, List.nil_append] at e4
      cases k with
      | zero => cases e4
      | succ k => rw [List.replicate_succ] at e4; cases e4
    · rw [w] at e4; cases e4
    · rw [w] at e4; cases e4
  · have l := congrArg List.length e2
    simp at l
    have r0 : r = [] := List.eq_nil_of_length_eq_zero (by omega)
    have k0 : k = 0 := by omega
    subst r0; subst k0
    have e5 : [6, c] = [6, s'] := e2
    cases e5
    exact ⟨s, e1, e3, e4⟩
theorem ty_r {U U' : Md} {ns ns' c : Nat} {t : Ty} (h : STy ns t) (hn : ns ≤ 64) (hn' : ns' ≤ 64) (hc : c < ns') (q : tySb U U' t [8, 6, c] = true) : ∃ k, t = [8, 6, k] ∧ k < ns ∧ U.2.2.2.1 k = U'.2.2.2.1 c := by
  obtain ⟨_, r, k, hr, ⟨x, e1, e2⟩ | ⟨s, s', e1, e2, e3, e4⟩⟩ := tySb_s (ns' := ns') h (.inr ⟨8, [6, c], .inl rfl, rfl, PT_s hc⟩) hn hn' q
  · have e3 : [8, 6, c] = r ++ List.replicate k 7 ++ [x] := e2.trans e1
    have e4 : [8, 6] = r ++ List.replicate k 7 := by
      have := congrArg List.dropLast e3
      simpa using this
    exfalso
    rcases hr with w | w | w
    · rw [w, List.nil_append] at e4
      cases k with
      | zero => cases e4
      | succ k => rw [List.replicate_succ] at e4; cases e4
    · rw [w] at e4
      have e5 : [8, 6] = 8 :: List.replicate k 7 := e4
      cases k with
      | zero => cases e5
      | succ k => rw [List.replicate_succ] at e5; cases e5
    · rw [w] at e4; cases e4
  · have e5 : [8] = r ++ List.replicate k 7 := by
      have := congrArg (fun l => l.dropLast.dropLast) e2
      simpa using this
    have k0 : k = 0 ∧ r = [8] := by
      rcases hr with w | w | w
      · rw [w, List.nil_append] at e5
        cases k with
        | zero => cases e5
        | succ k => rw [List.replicate_succ] at e5; cases e5
      · rw [w] at e5
        have e6 : [8] = 8 :: List.replicate k 7 := e5
        cases k with
        | zero => exact ⟨rfl, w⟩
        | succ k => rw [List.replicate_succ] at e6; cases e6
      · rw [w] at e5; cases e5
    obtain ⟨k0, r0⟩ := k0
    subst k0; subst r0
    have e6 : [8, 6, c] = [8, 6, s'] := e2
    cases e6
    exact ⟨s, e1, e3, e4⟩
/-- an import of module 0 -/
theorem coin_sig {U : Md} {a f : Nat} (hn : U.1.2.2 ≤ 64) (ht : ∀ t, t ∈ tksOf U a → STy U.1.2.2 t) (hg : ∀ t, t ∈ gvsOf U a → STy U.1.2.2 t) (hf : f < 6) (h : sameLs U a U0 f = true) : CoinSig U a f := by
  obtain ⟨l1, l2, t1, t2⟩ := same_l h
  have i0 : U0.2.2.2.1 0 = 0 := rfl
  have z1 : U0.1.2.2 ≤ 64 := by decide
  have z2 : 0 < U0.1.2.2 := by decide
  have hp : ∀ {t : Ty} {c : Nat}, STy U.1.2.2 t → 1 ≤ c → c ≤ 5 → tySb U U0 t [c] = true → t = [c] := fun h a b q => ty_p h hn z1 a b q
  have hs : ∀ {t : Ty}, STy U.1.2.2 t → tySb U U0 t [6, 0] = true → ∃ k, t = [6, k] ∧ ckC U k := fun h q => by
    obtain ⟨k, e1, e2, e3⟩ := ty_s h hn z1 z2 q
    exact ⟨k, e1, PT_s e2, by rw [e3]; exact i0⟩
  have hr : ∀ {t : Ty}, STy U.1.2.2 t → tySb U U0 t [8, 6, 0] = true → ∃ k, t = [8, 6, k] ∧ ckC U k := fun h q => by
    obtain ⟨k, e1, e2, e3⟩ := ty_r h hn z1 z2 q
    exact ⟨k, e1, PT_s e2, by rw [e3]; exact i0⟩
  have hc : f = 0 ∨ f = 1 ∨ f = 2 ∨ f = 3 ∨ f = 4 ∨ f = 5 := by omega
  rcases hc with c | c | c | c | c | c <;> subst c
  · obtain ⟨x, ex⟩ := len1 (show (tksOf U a).length = 1 from l1)
    obtain ⟨y, ey⟩ := len1 (show (gvsOf U a).length = 1 from l2)
    have q1 := t1 0 (by rw [ex]; simp)
    have q2 := t2 0 (by rw [ey]; simp)
    rw [ex] at q1 ht; rw [ey] at q2 hg
    have e1 := hp (c := 3) (ht x (by simp)) (by decide) (by decide) q1
    obtain ⟨k, e2, ck⟩ := hs (hg y (by simp)) q2
    exact .inl ⟨rfl, by rw [ex, e1], k, ck, by rw [ey, e2]⟩
  · obtain ⟨x, x', ex⟩ := len2 (show (tksOf U a).length = 2 from l1)
    have eg : gvsOf U a = [] := List.eq_nil_of_length_eq_zero (show (gvsOf U a).length = 0 from l2)
    have q1 := t1 0 (by rw [ex]; simp)
    have q2 := t1 1 (by rw [ex]; simp)
    rw [ex] at q1 q2 ht
    have e1 := hp (c := 5) (ht x (by simp)) (by decide) (by decide) q1
    obtain ⟨k, e2, ck⟩ := hs (ht x' (by simp)) q2
    exact .inr (.inl ⟨rfl, ⟨k, ck, by rw [ex, e1, e2]⟩, eg⟩)
  · obtain ⟨x, ex⟩ := len1 (show (tksOf U a).length = 1 from l1)
    obtain ⟨y, ey⟩ := len1 (show (gvsOf U a).length = 1 from l2)
    have q1 := t1 0 (by rw [ex]; simp)
    have q2 := t2 0 (by rw [ey]; simp)
    rw [ex] at q1 ht; rw [ey] at q2 hg
    obtain ⟨k, e1, ck⟩ := hr (ht x (by simp)) q1
    have e2 := hp (c := 3) (hg y (by simp)) (by decide) (by decide) q2
    exact .inr (.inr (.inl ⟨rfl, ⟨8, k, .inl rfl, ck, by rw [ex, e1]⟩, by rw [ey, e2]⟩))
  · obtain ⟨x, x', ex⟩ := len2 (show (tksOf U a).length = 2 from l1)
    obtain ⟨y, ey⟩ := len1 (show (gvsOf U a).length = 1 from l2)
    have q1 := t1 0 (by rw [ex]; simp)
    have q2 := t1 1 (by rw [ex]; simp)
    have q3 := t2 0 (by rw [ey]; simp)
    rw [ex] at q1 q2 ht; rw [ey] at q3 hg
    obtain ⟨k1, e1, c1⟩ := hs (ht x (by simp)) q1
    obtain ⟨k2, e2, c2⟩ := hs (ht x' (by simp)) q2
    obtain ⟨k3, e3, c3⟩ := hs (hg y (by simp)) q3
    exact .inr (.inr (.inr (.inl ⟨rfl, ⟨k2, k1, c2, c1, by rw [ex, e1, e2]⟩, k3, c3, by rw [ey, e3]⟩)))
  · obtain ⟨x, x', ex⟩ := len2 (show (tksOf U a).length = 2 from l1)
    obtain ⟨y, y', ey⟩ := len2 (show (gvsOf U a).length = 2 from l2)
    have q1 := t1 0 (by rw [ex]; simp)
    have q2 := t1 1 (by rw [ex]; simp)
    have q3 := t2 0 (by rw [ey]; simp)
    have q4 := t2 1 (by rw [ey]; simp)
    rw [ex] at q1 q2 ht; rw [ey] at q3 q4 hg
    obtain ⟨k1, e1, c1⟩ := hs (ht x (by simp)) q1
    have e2 := hp (c := 3) (ht x' (by simp)) (by decide) (by decide) q2
    obtain ⟨k3, e3, c3⟩ := hs (hg y (by simp)) q3
    obtain ⟨k4, e4, c4⟩ := hs (hg y' (by simp)) q4
    exact .inr (.inr (.inr (.inr (.inl ⟨rfl, ⟨k1, c1, by rw [ex, e1, e2]⟩, k3, k4, c3, c4, by rw [ey, e3, e4]⟩))))
  · obtain ⟨x, ex⟩ := len1 (show (tksOf U a).length = 1 from l1)
    obtain ⟨y, ey⟩ := len1 (show (gvsOf U a).length = 1 from l2)
    have q1 := t1 0 (by rw [ex]; simp)
    have q2 := t2 0 (by rw [ey]; simp)
    rw [ex] at q1 ht; rw [ey] at q2 hg
    have e1 := hp (c := 5) (ht x (by simp)) (by decide) (by decide) q1
    have e2 := hp (c := 3) (hg y (by simp)) (by decide) (by decide) q2
    exact .inr (.inr (.inr (.inr (.inr ⟨rfl, by rw [ex, e1], by rw [ey, e2]⟩))))
/-- the modules by their places; module 0 is none of them -/
def msW (ws : Nat → Md) (wc : Nat) : Nat → Option Md := fun u => if 1 ≤ u ∧ u ≤ wc then some (ws u) else none
theorem msW_s {u : Nat} {U : Md} (h : msW ws wc u = some U) : 1 ≤ u ∧ u ≤ wc ∧ U = ws u := by
  unfold msW at h
  by_cases c : 1 ≤ u ∧ u ≤ wc
  · rw [if_pos c] at h; cases h; exact ⟨c.1, c.2, rfl⟩
  · rw [if_neg c] at h; cases h
theorem SWo.cert (h : SWo ws wc dp) : ∃ Ce : Nat → Nat → Nat → Lks, ∀ u f, 1 ≤ u → u ≤ wc → f < fsOf (ws u) → Cert (ws u) f (Ce u f) ∧ ∀ i, N63 (Ce u f i) := by
  have key : ∀ p : Nat × Nat, ∃ C : Nat → Lks, 1 ≤ p.1 → p.1 ≤ wc → p.2 < fsOf (ws p.1) → Cert (ws p.1) p.2 C ∧ ∀ i, N63 (C i) := fun p => by
    by_cases c : 1 ≤ p.1 ∧ p.1 ≤ wc ∧ p.2 < fsOf (ws p.1)
    · obtain ⟨sm, _, _, _, _, n0⟩ := h.2.2.2 p.1 c.2.1
      obtain ⟨_, _, hv⟩ := n0 c.1
      obtain ⟨f1, f2, f3, f4⟩ := sm.1.2 p.2 c.2.2
      obtain ⟨C, c1, c2⟩ := vrd_c63 f3 f4 f2 (sm.1.1.2.2.2.2 p.2 (by have := sm.2.2.2.2.2.1.1; omega)).2.1 (hv p.2 c.2.2)
      exact ⟨C, fun _ _ _ => ⟨c1, c2⟩⟩
    · exact ⟨fun _ => ((0, fun _ => ([], 0, false)), fun _ => false, fun _ => 0, fun _ => false), fun a b d => absurd ⟨a, b, d⟩ c⟩
  have chs := Classical.axiomOfChoice (r := fun (p : Nat × Nat) (C : Nat → Lks) => 1 ≤ p.1 → p.1 ≤ wc → p.2 < fsOf (ws p.1) → Cert (ws p.1) p.2 C ∧ ∀ i, N63 (C i)) key
  obtain ⟨G, hG⟩ := chs
  exact ⟨fun u f => G (u, f), fun u f a b c => hG (u, f) a b c⟩
theorem SWo.wld (h : SWo ws wc dp) : ∃ Ce, ∀ led, Wld (evW ws wc dp led) (msW ws wc) Ce := by
  obtain ⟨Ce, hC⟩ := h.cert
  refine ⟨Ce, fun led u U e => ?_⟩
  obtain ⟨u1, u2, eU⟩ := msW_s e
  subst eU
  obtain ⟨sm, d24, hm, wk, dpt, n0⟩ := h.2.2.2 u u2
  obtain ⟨n0, hf, hv⟩ := n0 u1
  have w8 := h.2.2.1
  obtain ⟨⟨mo, fo⟩, s1, s2, s3, s4, ⟨s5, s6, s7, s8⟩, s9, s10, s11, s12⟩ := sm
  refine ⟨by omega, h.uOk u1 u2, ⟨n0, s9, s5, by omega⟩, fun a ha => ⟨s11 a ha, by omega⟩, fun a ha => ⟨(mo.2.2.2.2 a ha).2.1, (s3 a ha).2⟩, fun f hff => ?_, fun a a1 a2 => ?_⟩
  · obtain ⟨f1, f2, f3, f4⟩ := fo f hff
    obtain ⟨c1, c2⟩ := hC u f u1 u2 hff
    exact ⟨c1, c2, f2, by have := f3.1; omega, fun k hk => s4 f hff _ (getD_m hk), fun i o x y q => (f3.2 i o x y q).1⟩
  · obtain ⟨j, j1, j2, j3, j4, j5⟩ := hf a a1 a2
    by_cases c : j = 0
    · subst c
      rw [h.1.1] at j2 j3 j5
      left
      have e0 : U0.1.1 = 0 := rfl
      exact ⟨by rw [← j2, e0], coin_sig mo.2.1.2 (s3 a a2).1 (s3 a a2).2 j3 j5⟩
    · right
      obtain ⟨smj, _⟩ := h.2.2.2 j (by omega)
      refine ⟨j, ws j, by unfold msW; rw [if_pos ⟨by omega, by omega⟩], j2, j3, ?_⟩
      obtain ⟨l1, l2, t1, t2⟩ := same_l j5
      have sj := smj.2.2.2.1 (whoOf (ws u) a % 256) (by have := smj.2.2.2.2.2.1.1; omega)
      refine ⟨fun r => ?_, l1.symm, fun k hk => ?_, l2, fun k hk => ?_⟩
      · unfold resOf at r ⊢
        rw [← j4]; exact r
      · exact (tySb_s ((s3 a a2).1 _ (getD_m hk)) (sj.1 _ (getD_m (by omega))) mo.2.1.2 smj.1.1.2.1.2 (t1 k hk)).1
      · exact (tySb_s ((s3 a a2).2 _ (getD_m hk)) (sj.2 _ (getD_m (by omega))) mo.2.1.2 smj.1.1.2.1.2 (t2 k hk)).1
end
