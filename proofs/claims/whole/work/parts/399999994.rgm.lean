/-! THE REFERENCE'S LEDGER: a tree is kept -/
theorem PreL.cg {R R' : Nat → Nat → Prop} : ∀ cs a b, (∀ x y, a ≤ x → y ≤ b → R x y → R' x y) → (∀ x y, R x y → x < y) → PreL R cs a b → PreL R' cs a b ∧ a ≤ b := by
  intro cs
  induction cs with
  | nil => intro a b _ _ h; exact ⟨h, Nat.le_of_eq h⟩
  | cons c cs ih =>
    intro a b h1 hl h
    obtain ⟨e, u, p, q⟩ := h
    have hlt := hl a u p
    obtain ⟨i1, i2⟩ := ih u b (fun x y hx hy r => h1 x y (by omega) hy r) hl q
    exact ⟨⟨e, u, h1 a u (Nat.le_refl _) i2 p, i1⟩, by omega⟩
theorem Pre.cg {Q Q' : Hp} : ∀ d v u, (∀ i, v ≤ i → i < u → Q' i = Q i) → Pre Q d v u → Pre Q' d v u := by
  intro d
  induction d with
  | zero => intro v u _ h; exact absurd h (by simp [Pre])
  | succ d ih =>
    intro v u e h
    have hvu := (Pre.ge (d + 1) v u h).1
    obtain ⟨p1, p2, p3, p4⟩ := h
    have ev := e v (Nat.le_refl _) hvu
    have ek : kds Q' v = kds Q v := by unfold kds; rw [ev]
    refine ⟨by rw [ev]; exact p1, by rw [ev]; exact p2, by rw [ek]; exact p3, ?_⟩
    rw [ek]
    exact (PreL.cg _ _ _ (fun x y hx hy r => ih x y (fun i i1 i2 => e i (by omega) (by omega)) r) (fun x y r => (Pre.ge d x y r).1) p4).1
/-- Q at i is H at o i -/
def Alk (H Q : Hp) (o : Nat → Nat) (i : Nat) : Prop := (Q i).1 = (H (o i)).1 ∧ (Q i).2.1 = (H (o i)).2.1 ∧ (Q i).2.2.1 = (H (o i)).2.2.1 ∧ (kds Q i).map o = kds H (o i)
def FrK (b s u : Nat) (z z' : St) : Prop := z'.2.2 = z.2.2 ∧ (∀ k, k ≠ 337 → ¬ (345 ≤ k ∧ k ≤ 348) → z'.1 k = z.1 k ∧ z'.2.1 k = z.2.1 k) ∧ (∀ j, j ≠ 14 → z'.1 337 j = z.1 337 j) ∧ z'.2.1 337 = z.2.1 337 ∧ ∀ k j, 345 ≤ k → k ≤ 348 → ¬ (b + s ≤ j ∧ j < b + u) → z'.1 k j = z.1 k j ∧ z'.2.1 k j = z.2.1 k j
theorem FrK.trans {b s u s' u' lo hi : Nat} {z z' z'' : St} (h : FrK b s u z z') (g : FrK b s' u' z' z'') (h1 : lo ≤ s) (h2 : u ≤ hi) (h3 : lo ≤ s') (h4 : u' ≤ hi) : FrK b lo hi z z'' := ⟨g.1.trans h.1, fun k a c => ⟨(g.2.1 k a c).1.trans (h.2.1 k a c).1, (g.2.1 k a c).2.trans (h.2.1 k a c).2⟩, fun j a => (g.2.2.1 j a).trans (h.2.2.1 j a), g.2.2.2.1.trans h.2.2.2.1, fun k j a c e => ⟨(g.2.2.2.2 k j a c (by omega)).1.trans (h.2.2.2.2 k j a c (by omega)).1, (g.2.2.2.2 k j a c (by omega)).2.trans (h.2.2.2.2 k j a c (by omega)).2⟩⟩
theorem FrK.kep {b s u x y : Nat} {z z' : St} (h : FrK b s u z z') {Q : Hp} (k : Kep z Q b x y) (hd : y ≤ s ∨ u ≤ x) : Kep z' Q b x y := fun w w1 w2 => by
  obtain ⟨k0, k1, k2, k3, k4⟩ := k w w1 w2
  have nn : ¬ (b + s ≤ b + w ∧ b + w < b + u) := by omega
  exact ⟨k0, by rw [(h.2.2.2.2 345 _ (by omega) (by omega) nn).1]; exact k1, by rw [(h.2.2.2.2 346 _ (by omega) (by omega) nn).2]; exact k2, by rw [(h.2.2.2.2 347 _ (by omega) (by omega) nn).2]; exact k3, by rw [(h.2.2.2.2 348 _ (by omega) (by omega) nn).1]; exact k4⟩
/-- the result of keeping v at s .. u -/
def KpS (H : Hp) (d b s u v : Nat) (Q0 : Hp) (o0 : Nat → Nat) (z z' : St) : Prop := ∃ Q o, Pre Q d s u ∧ o s = v ∧ Kep z' Q b s u ∧ (∀ i, ¬ (s ≤ i ∧ i < u) → Q i = Q0 i ∧ o i = o0 i) ∧ (∀ i, s ≤ i → i < u → Alk H Q o i) ∧ z'.1 337 14 = nI (b + u) ∧ FrK b s u z z'
def KpR (F : Nat) (sh : Nat → Nat × Nat) (n : Nat) (H : Hp) (m d : Nat) : Prop := ∀ z b s v, Lay sh n z → HM z H m → Tr H d v → z.1 337 14 = nI (b + s) → b + s + szM H d v ≤ 16384 → szM H d v ≤ 64 → ∃ z', fn_X18_keepOne F sh n d z 337 (nI v) = some (z', ()) ∧ ∀ Q0 o0, KpS H d b s (s + szM H d v) v Q0 o0 z z'
section
variable {F n : Nat} {sh : Nat → Nat × Nat}
theorem keepL {H : Hp} {m d b : Nat} (ih : KpR F sh n H m d) : ∀ cs a f z0, Lay sh n z0 → HM z0 H m → chm z0 (hm1 cs) cs → (∀ c, c ∈ cs → Tr H d c ∧ (H c).1 ≠ 0) → (cs.map (szM H d)).sum ≤ 64 → b + a + (cs.map (szM H d)).sum ≤ 16384 → cs.length < f → z0.1 337 14 = nI (b + a) → ∃ z', fn_X18_keepOne_L84 F sh n (fn_X18_keepOne F sh n d) 337 f z0 (hm1 cs) = some (z', ()) ∧ ∀ (Q0 : Hp) (o0 : Nat → Nat), ∃ (Q : Hp) (o : Nat → Nat) (st : List Nat), PreL (Pre Q d) st a (a + (cs.map (szM H d)).sum) ∧ st.map o = cs ∧ Kep z' Q b a (a + (cs.map (szM H d)).sum) ∧ (∀ i, ¬ (a ≤ i ∧ i < a + (cs.map (szM H d)).sum) → Q i = Q0 i ∧ o i = o0 i) ∧ (∀ i, a ≤ i → i < a + (cs.map (szM H d)).sum → Alk H Q o i) ∧ z'.1 337 14 = nI (b + (a + (cs.map (szM H d)).sum)) ∧ FrK b a (a + (cs.map (szM H d)).sum) z0 z' := by
  intro cs
  induction cs with
  | nil =>
    intro a f z0 hL hM hc ht hs hr hf h14
    obtain ⟨f', rfl⟩ : ∃ q, f = q + 1 := ⟨f - 1, by have : ([] : List Nat).length = 0 := rfl; omega⟩
    refine ⟨z0, ?_, fun Q0 o0 => ⟨Q0, o0, [], rfl, rfl, fun w w1 w2 => absurd w2 (by simp; omega), fun _ _ => ⟨rfl, rfl⟩, fun i i1 i2 => absurd i2 (by simp; omega), h14, ⟨rfl, fun _ _ _ => ⟨rfl, rfl⟩, fun _ _ => rfl, rfl, fun _ _ _ _ _ => ⟨rfl, rfl⟩⟩⟩⟩
    unfold fn_X18_keepOne_L84
    rw [if_pos (show hm1 [] = -1 from rfl)]
  | cons c cs ihc =>
    intro a f z0 hL hM hc ht hs hr hf h14
    simp only [List.map_cons, List.sum_cons, List.length_cons] at hs hr hf ⊢
    obtain ⟨f', rfl⟩ : ∃ q, f = q + 1 := ⟨f - 1, by omega⟩
    obtain ⟨_, c24, c3⟩ := hc
    obtain ⟨tc, al⟩ := ht c (by simp)
    obtain ⟨z1, p1, p2⟩ := ih z0 b a c hL hM tc h14 (by omega) (by omega)
    obtain ⟨_, _, _, _, _, _, _, x14, fk⟩ := p2 H id
    have L1 : Lay sh n z1 := hL.of fk.1
    have M1 : HM z1 H m := hM.fr (fun k k1 k2 => (fk.2.1 k (by omega) (by omega)).1) (fun k k1 k2 => (fk.2.1 k (by omega) (by omega)).2)
    have e354 : z1.1 354 = z0.1 354 := (fk.2.1 354 (by omega) (by omega)).1
    have eh := chm_hd c3
    obtain ⟨z2, q1, q2⟩ := ihc (a + szM H d c) f' z1 L1 M1 (by rw [← eh]; exact chm_of c3 (fun x _ => by rw [e354])) (fun x hx => ht x (by simp [hx])) (by omega) (by omega) (by omega) x14
    refine ⟨z2, ?_, fun Q0 o0 => ?_⟩
    · have oc : okA sh n 354 101 (nI c) = true := by rw [lay_a L1 354 101 24576 (by decide) rfl]; exact okI_nI c24 (by omega)
      unfold fn_X18_keepOne_L84
      rw [show hm1 (c :: cs) = nI c from rfl, if_neg (nI_m1 (by omega)), p1, cal_s, L1.2.2 337 15 349 rfl, lnk_s, (b_trees L1).1, grd_true, (b_trees L1).2.2.2.2.2.1, lnk_s, oc, grd_true, lt_t, nI_clamp (by omega), e354, eh]
      exact q1
    · obtain ⟨Q1, o1, r1, r2, r3, r4, r5, r6, r7⟩ := p2 Q0 o0
      obtain ⟨Q, o, st, t1, t2, t3, t4, t5, t6, t7⟩ := q2 Q1 o1
      have tl : (cs.map (szM H d)).sum = (cs.map (szM H d)).sum := rfl
      have old : ∀ i, i < a + szM H d c → Q i = Q1 i ∧ o i = o1 i := fun i hi => t4 i (by omega)
      have g1 := Pre.ge d a _ r1
      have r1' : Pre Q d a (a + szM H d c) := Pre.cg d a _ (fun i _ i2 => (old i i2).1) r1
      rw [← Nat.add_assoc]
      refine ⟨Q, o, a :: st, ⟨rfl, _, r1', t1⟩, ?_, fun w w1 w2 => ?_, fun i hi => ?_, fun i i1 i2 => ?_, t6, r7.trans t7 (Nat.le_refl _) (by omega) (by omega) (Nat.le_refl _)⟩
      · rw [List.map_cons, t2, (old a g1.1).2, r2]
      · by_cases cw : w < a + szM H d c
        · have := (t7.kep r3 (.inl (Nat.le_refl _))) w w1 cw
          unfold kds at *
          rw [(old w cw).1]; exact this
        · exact t3 w (by omega) w2
      · obtain ⟨y1, y2⟩ := t4 i (by omega)
        obtain ⟨y3, y4⟩ := r4 i (by omega)
        exact ⟨y1.trans y3, y2.trans y4⟩
      · by_cases cw : i < a + szM H d c
        · obtain ⟨v1, v2, v3, v4⟩ := r5 i i1 cw
          obtain ⟨w1, w2⟩ := old i cw
          unfold Alk
          have ek : kds Q i = kds Q1 i := by unfold kds; rw [w1]
          rw [w1, w2, ek]
          refine ⟨v1, v2, v3, ?_⟩
          rw [← v4]
          refine List.map_congr_left (fun x hx => ?_)
          have := g1.2 i i1 cw x hx
          exact (old x this.2).2
        · exact t5 i (by omega) i2
theorem len_sz {H : Hp} {d : Nat} : ∀ cs : List Nat, (∀ c, c ∈ cs → Tr H d c) → cs.length ≤ (cs.map (szM H d)).sum := by
  intro cs
  induction cs with
  | nil => intro _; simp
  | cons c cs ih =>
    intro h
    have i := ih (fun x hx => h x (by simp [hx]))
    have hc := h c (by simp)
    have : 1 ≤ szM H d c := by
      cases d with
      | zero => exact absurd hc (by simp [Tr])
      | succ d => unfold szM; omega
    simp only [List.map_cons, List.sum_cons, List.length_cons]
    omega
theorem nar_b8 : ∀ k, k < 8 → vp_nar .byte (nI k) = nI k := by decide
theorem keepM_t (hF : 300 ≤ F) {H : Hp} {m : Nat} : ∀ d, KpR F sh n H m d := by
  intro d
  induction d with
  | zero => intro z b s v _ _ h; exact absurd h (by simp [Tr])
  | succ d ih =>
    intro z b s v hL hM hT h14 hr hs
    obtain ⟨al, _, tc⟩ := hT
    have esz : szM H (d + 1) v = 1 + ((kds H v).map (szM H d)).sum := rfl
    rw [esz] at hr hs
    obtain ⟨x1, x2⟩ := hM.i1 al
    obtain ⟨r1, r2, r3, r4, r5⟩ := hM.row al
    have k8 := hM.k8 al
    have len := hM.len al
    have clen := len_sz (kds H v) tc
    let z1 : St := si (sl (sl (si (si z 337 14 (nI (b + s + 1))) 345 (b + s) (nI (H v).1)) 346 (b + s) (H v).2.1) 347 (b + s) (H v).2.2.1) 348 (b + s) (nI (kds H v).length)
    have f1 : FrK b s (s + 1) z z1 := by
      refine ⟨rfl, fun k k1 k2 => ⟨?_, ?_⟩, fun j hj => by simp [z1, si_1, sl_1, hj], by funext j; simp [z1, si_2, sl_2], fun k j k1 k2 hj => ?_⟩
      · funext j; simp [z1, si_1, sl_1, k1, show k ≠ 345 by omega, show k ≠ 348 by omega]
      · funext j; simp [z1, si_2, sl_2, show k ≠ 346 by omega, show k ≠ 347 by omega]
      · have nj : j ≠ b + s := by omega
        have nk : k ≠ 337 := by omega
        constructor <;> simp only [z1, si_1, sl_1, si_2, sl_2, if_neg nj, if_neg nk] <;> (repeat' split) <;> first | rfl | (rename_i e; subst e; rfl) | (rename_i e _; subst e; rfl) | simp_all
    have L1 : Lay sh n z1 := hL.of rfl
    have M1 : HM z1 H m := hM.fr (fun k k1 k2 => (f1.2.1 k (by omega) (by omega)).1) (fun k k1 k2 => (f1.2.1 k (by omega) (by omega)).2)
    have r5' := (M1.row al).2.2.2.2
    obtain ⟨z2, q1, q2⟩ := keepL ih (b := b) (kds H v) (s + 1) F z1 L1 M1 r5' (fun c hc => ⟨tc c hc, hM.cl al c hc⟩) (by omega) (by omega) (by omega) (by simp [z1, si_1, sl_1]; rfl)
    refine ⟨z2, ?_, fun Q0 o0 => ?_⟩
    · have za : Lay sh n (si z 337 14 (nI (b + s + 1))) := hL.of rfl
      have zb : Lay sh n (si (si z 337 14 (nI (b + s + 1))) 345 (b + s) (nI (H v).1)) := hL.of rfl
      have zc : Lay sh n (sl (si (si z 337 14 (nI (b + s + 1))) 345 (b + s) (nI (H v).1)) 346 (b + s) (H v).2.1) := hL.of rfl
      have zd : Lay sh n (sl (sl (si (si z 337 14 (nI (b + s + 1))) 345 (b + s) (nI (H v).1)) 346 (b + s) (H v).2.1) 347 (b + s) (H v).2.2.1) := hL.of rfl
      have Md : HM (sl (sl (si (si z 337 14 (nI (b + s + 1))) 345 (b + s) (nI (H v).1)) 346 (b + s) (H v).2.1) 347 (b + s) (H v).2.2.1) H m := hM.fr (fun k k1 k2 => by funext j; simp [si_1, sl_1, show k ≠ 337 by omega, show k ≠ 345 by omega]) (fun k k1 k2 => by funext j; simp [si_2, sl_2, show k ≠ 346 by omega, show k ≠ 347 by omega])
      have ct := count_t (F := F) hF zd Md al
      have ov : ∀ k w, 350 ≤ k → k ≤ 354 → shF k = (w, 24576) → okA sh n k w (nI v) = true := fun k w k1 k2 e => by rw [lay_a hL k w 24576 (by omega) e]; exact x1
      have op : ∀ k w, 345 ≤ k → k ≤ 348 → shF k = (w, 16384) → okA sh n k w (nI (b + s)) = true := fun k w k1 k2 e => by rw [lay_a hL k w 16384 (by omega) e]; exact okI_nI (by omega) (by omega)
      have e1 : (si z 337 14 (nI (b + s + 1))).1 350 v = nI (H v).1 := by simp [si_1]; exact r1
      have e2 : (si (si z 337 14 (nI (b + s + 1))) 345 (b + s) (nI (H v).1)).2.1 351 v = (H v).2.1 := r2
      have e3 : (sl (si (si z 337 14 (nI (b + s + 1))) 345 (b + s) (nI (H v).1)) 346 (b + s) (H v).2.1).2.1 352 v = (H v).2.2.1 := by simp [sl_2, si_2]; exact r3
      have e4 : z1.1 353 v = hm1 (kds H v) := (M1.row al).2.2.2.1
      have cp : (nI (b + s)).toNatClampNeg = b + s := nI_clamp (by omega)
      have tz := fun {y : St} (hy : Lay sh n y) => b_trees hy
      unfold fn_X18_keepOne
      rw [(b_model hL).1, grd_true, h14, lt_t, lt_t, nI_1, za.2.2 337 10 345 rfl, lnk_s, za.2.2 337 15 349 rfl, lnk_s, (tz za).1, grd_true, (tz za).2.1, lnk_s, ov 350 100 (by omega) (by omega) rfl, grd_true, op 345 100 (by omega) (by omega) rfl, grd_true, x2, e1, nar_b8 _ k8, cp, lt_t]
      rw [zb.2.2 337 11 346 rfl, lnk_s, zb.2.2 337 15 349 rfl, lnk_s, (tz zb).1, grd_true, (tz zb).2.2.1, lnk_s, ov 351 102 (by omega) (by omega) rfl, grd_true, op 346 102 (by omega) (by omega) rfl, grd_true, e2, lt_t]
      rw [zc.2.2 337 12 347 rfl, lnk_s, zc.2.2 337 15 349 rfl, lnk_s, (tz zc).1, grd_true, (tz zc).2.2.2.1, lnk_s, ov 352 102 (by omega) (by omega) rfl, grd_true, op 347 102 (by omega) (by omega) rfl, grd_true, e3, lt_t]
      rw [zd.2.2 337 13 348 rfl, lnk_s, zd.2.2 337 15 349 rfl, lnk_s, (tz zd).1, grd_true, ct, cal_s, op 348 101 (by omega) (by omega) rfl, grd_true, lt_t]
      show (lnk (z1.2.2 337 15) _) = _
      rw [L1.2.2 337 15 349 rfl, lnk_s, (tz L1).1, grd_true, (tz L1).2.2.2.2.1, lnk_s, ov 353 101 (by omega) (by omega) rfl, grd_true, lt_t]
      show fn_X18_keepOne_L84 F sh n (fn_X18_keepOne F sh n d) 337 F z1 (z1.1 353 v) = _
      rw [e4]
      exact q1
    · obtain ⟨Q, o, st, t1, t2, t3, t4, t5, t6, t7⟩ := q2 Q0 o0
      rw [esz, show s + (1 + ((kds H v).map (szM H d)).sum) = s + 1 + ((kds H v).map (szM H d)).sum by omega]
      have gl := PreL.ge (Q := Q) (fun a u h => Pre.ge d a u h) _ _ _ t1
      have eqQ : ∀ i, i ≠ s → upH Q s ((H v).1, (H v).2.1, (H v).2.2.1, st) i = Q i := fun i hi => upH_n hi
      have kQ : ∀ i, i ≠ s → kds (upH Q s ((H v).1, (H v).2.1, (H v).2.2.1, st)) i = kds Q i := fun i hi => by unfold kds; rw [eqQ i hi]
      have kS : kds (upH Q s ((H v).1, (H v).2.1, (H v).2.2.1, st)) s = st := by unfold kds; rw [upH_s]
      have oS : ∀ x, x ≠ s → (fun i => if i = s then v else o i) x = o x := fun x hx => by simp [hx]
      have lst : st.length = (kds H v).length := by rw [← t2, List.length_map]
      refine ⟨upH Q s ((H v).1, (H v).2.1, (H v).2.2.1, st), fun i => if i = s then v else o i, ⟨by rw [upH_s]; exact al, by rw [upH_s]; exact k8, by rw [kS, lst]; omega, ?_⟩, by simp, fun w w1 w2 => ?_, fun i hi => ?_, fun i i1 i2 => ?_, t6, f1.trans t7 (Nat.le_refl _) (by omega) (by omega) (Nat.le_refl _)⟩
      · rw [kS]
        exact (PreL.cg _ _ _ (fun x y hx hy r => Pre.cg d x y (fun i i1 i2 => eqQ i (by omega)) r) (fun x y r => (Pre.ge d x y r).1) t1).1
      · by_cases cw : w = s
        · subst cw
          have nn : ¬ (b + (w + 1) ≤ b + w ∧ b + w < b + (w + 1 + ((kds H v).map (szM H d)).sum)) := by omega
          rw [kS, upH_s, (t7.2.2.2.2 345 _ (by omega) (by omega) nn).1, (t7.2.2.2.2 346 _ (by omega) (by omega) nn).2, (t7.2.2.2.2 347 _ (by omega) (by omega) nn).2, (t7.2.2.2.2 348 _ (by omega) (by omega) nn).1, lst]
          exact ⟨by omega, by simp [z1, si_1, sl_1], by simp [z1, si_2, sl_2], by simp [z1, si_2, sl_2], by simp [z1, si_1, sl_1]⟩
        · rw [kQ w cw, eqQ w cw]
          exact t3 w (by omega) w2
      · obtain ⟨y1, y2⟩ := t4 i (by omega)
        have ni : i ≠ s := by omega
        exact ⟨(eqQ i ni).trans y1, (oS i ni).trans y2⟩
      · by_cases cw : i = s
        · subst cw
          unfold Alk
          rw [kS, upH_s]
          simp only [if_true]
          refine ⟨trivial, trivial, trivial, ?_⟩
          rw [← t2]
          refine List.map_congr_left (fun x hx => ?_)
          have := gl.2.1 x hx
          exact oS x (by omega)
        · obtain ⟨v1, v2, v3, v4⟩ := t5 i (by omega) i2
          unfold Alk
          rw [kQ i cw, eqQ i cw, oS i cw]
          refine ⟨v1, v2, v3, ?_⟩
          rw [← v4]
          refine List.map_congr_left (fun x hx => ?_)
          have := gl.2.2 i (by omega) i2 x hx
          exact oS x (by omega)
end
