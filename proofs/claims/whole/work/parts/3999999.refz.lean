/-! THE REFERENCE'S LEDGER: looking up, loading -/
/-- the first place that answers to p -/
def fd (p : Nat → Bool) : Nat → Nat → Option Nat
  | 0, _ => none
  | r + 1, i => if p i then some i else fd p r (i + 1)
def oI : Option Nat → Int32
  | none => -1
  | some i => nI i
theorem fd_lt {p : Nat → Bool} : ∀ r i j, fd p r i = some j → i ≤ j ∧ j < i + r ∧ p j = true := by
  intro r
  induction r with
  | zero => intro i j h; simp [fd] at h
  | succ r ih =>
    intro i j h
    unfold fd at h
    by_cases c : p i = true
    · rw [if_pos c] at h; cases h; exact ⟨Nat.le_refl _, by omega, c⟩
    · rw [if_neg c] at h
      obtain ⟨a, b, c'⟩ := ih _ _ h
      exact ⟨by omega, by omega, c'⟩
/-- nodes in preorder -/
def PreL (rec : Nat → Nat → Prop) : List Nat → Nat → Nat → Prop
  | [], a, b => a = b
  | c :: cs, a, b => c = a ∧ ∃ u, rec a u ∧ PreL rec cs u b
def Pre (Q : Hp) : Nat → Nat → Nat → Prop
  | 0, _, _ => False
  | d + 1, v, u => (Q v).1 ≠ 0 ∧ (Q v).1 < 8 ∧ (kds Q v).length ≤ 64 ∧ PreL (Pre Q d) (kds Q v) (v + 1) u
theorem PreL.ge {Q : Hp} {rec : Nat → Nat → Prop} (hr : ∀ a u, rec a u → a < u ∧ ∀ w, a ≤ w → w < u → ∀ c, c ∈ kds Q w → w < c ∧ c < u) : ∀ cs a b, PreL rec cs a b → a ≤ b ∧ (∀ c, c ∈ cs → a ≤ c ∧ c < b) ∧ ∀ w, a ≤ w → w < b → ∀ c, c ∈ kds Q w → w < c ∧ c < b := by
  intro cs
  induction cs with
  | nil => intro a b h; have h : a = b := h; subst h; exact ⟨Nat.le_refl _, fun c hc => absurd hc (by simp), fun w a b => by omega⟩
  | cons c cs ih =>
    intro a b h
    obtain ⟨e, u, h1, h2⟩ := h
    subst e
    obtain ⟨r1, r2⟩ := hr c u h1
    obtain ⟨i1, i2, i3⟩ := ih u b h2
    refine ⟨by omega, fun x hx => ?_, fun w w1 w2 x hx => ?_⟩
    · rcases List.mem_cons.mp hx with e | e
      · subst e; omega
      · have := i2 x e; omega
    · by_cases q : w < u
      · have := r2 w w1 q x hx; omega
      · exact i3 w (by omega) w2 x hx
theorem Pre.ge {Q : Hp} : ∀ d v u, Pre Q d v u → v < u ∧ ∀ w, v ≤ w → w < u → ∀ c, c ∈ kds Q w → w < c ∧ c < u := by
  intro d
  induction d with
  | zero => intro v u h; exact absurd h (by simp [Pre])
  | succ d ih =>
    intro v u h
    obtain ⟨_, _, _, h4⟩ := h
    obtain ⟨a1, a2, a3⟩ := PreL.ge (Q := Q) ih _ _ _ h4
    refine ⟨by omega, fun w w1 w2 c hc => ?_⟩
    by_cases q : w = v
    · subst q; have := a2 c hc; omega
    · exact a3 w (by omega) w2 c hc
/-- the tree at v .. u of Q, laid at m -/
def ldH (H : Hp) (m : Nat) (Q : Hp) (v u : Nat) : Hp := fun i => if m ≤ i ∧ i < m + (u - v) then ((Q (v + (i - m))).1, (Q (v + (i - m))).2.1, (Q (v + (i - m))).2.2.1, (kds Q (v + (i - m))).map (fun c => m + (c - v))) else H i
/-- its root with its first k parts -/
def ldP (H : Hp) (m : Nat) (Q : Hp) (v a k : Nat) : Hp := fun i => if i = m then ((Q v).1, (Q v).2.1, (Q v).2.2.1, ((kds Q v).take k).map (fun c => m + (c - v))) else ldH H m Q v a i
/-- rows of a tree that is kept -/
def Kep (z : St) (Q : Hp) (b v u : Nat) : Prop := ∀ w, v ≤ w → w < u → b + w < 16384 ∧ z.1 345 (b + w) = nI (Q w).1 ∧ z.2.1 346 (b + w) = (Q w).2.1 ∧ z.2.1 347 (b + w) = (Q w).2.2.1 ∧ z.1 348 (b + w) = nI (kds Q w).length
def FrL (z z' : St) : Prop := z'.2.2 = z.2.2 ∧ (∀ k, k ≠ 337 → ¬ (349 ≤ k ∧ k ≤ 354) → z'.1 k = z.1 k ∧ z'.2.1 k = z.2.1 k) ∧ (∀ j, j ≠ 14 → z'.1 337 j = z.1 337 j) ∧ z'.2.1 337 = z.2.1 337
theorem FrL.trans {z z' z'' : St} (h : FrL z z') (g : FrL z' z'') : FrL z z'' := ⟨g.1.trans h.1, fun k a b => ⟨(g.2.1 k a b).1.trans (h.2.1 k a b).1, (g.2.1 k a b).2.trans (h.2.1 k a b).2⟩, fun j a => (g.2.2.1 j a).trans (h.2.2.1 j a), g.2.2.2.trans h.2.2.2⟩
theorem FrL.rfl' {z : St} : FrL z z := ⟨rfl, fun _ _ _ => ⟨rfl, rfl⟩, fun _ _ => rfl, rfl⟩
theorem FrL.tr {z z' : St} (h : Fr 349 354 z z') : FrL z z' := ⟨h.1, fun k _ b => h.2 k b, fun j _ => by rw [(h.2 337 (by omega)).1], (h.2 337 (by omega)).2⟩
theorem FrL.kep {z z' : St} (h : FrL z z') {Q : Hp} {b v u : Nat} (k : Kep z Q b v u) : Kep z' Q b v u := fun w w1 w2 => by
  rw [(h.2.1 345 (by decide) (by omega)).1, (h.2.1 346 (by decide) (by omega)).2, (h.2.1 347 (by decide) (by omega)).2, (h.2.1 348 (by decide) (by omega)).1]
  exact k w w1 w2
/-- it has been loaded -/
def LdR (F : Nat) (sh : Nat → Nat × Nat) (n : Nat) (Q : Hp) (b d : Nat) : Prop := ∀ z H m v u, Lay sh n z → HM z H m → Nw H m → Pre Q d v u → Kep z Q b v u → z.1 337 14 = nI (b + v) → m + (u - v) ≤ 24576 → ∃ z', fn_X18_loadOne F sh n d z 337 = some (z', nI m) ∧ HM z' (ldH H m Q v u) (m + (u - v)) ∧ Nw (ldH H m Q v u) (m + (u - v)) ∧ Rt (ldH H m Q v u) m ∧ (∀ r, r < m → Rt H r → Rt (ldH H m Q v u) r) ∧ z'.1 337 14 = nI (b + u) ∧ FrL z z'
section
variable {F n : Nat} {sh : Nat → Nat × Nat}
theorem ldP_m {H Q : Hp} {m v a k : Nat} : ldP H m Q v a k m = ((Q v).1, (Q v).2.1, (Q v).2.2.1, ((kds Q v).take k).map (fun c => m + (c - v))) := if_pos rfl
/-- one part more -/
theorem ldP_s {H Q : Hp} {m v a u' k : Nat} (h1 : v < a) (h2 : a < u') (hk : k < (kds Q v).length) (hc : (kds Q v)[k] = a) (hg : ∀ w, a ≤ w → w < u' → ∀ c, c ∈ kds Q w → a ≤ c) : upH (ldH (ldP H m Q v a k) (m + (a - v)) Q a u') m (setC (ldH (ldP H m Q v a k) (m + (a - v)) Q a u' m) (kds (ldH (ldP H m Q v a k) (m + (a - v)) Q a u') m ++ [m + (a - v)])) = ldP H m Q v u' (k + 1) := by
  have em : ldH (ldP H m Q v a k) (m + (a - v)) Q a u' m = ((Q v).1, (Q v).2.1, (Q v).2.2.1, ((kds Q v).take k).map (fun c => m + (c - v))) := by
    unfold ldH
    rw [if_neg (by omega)]
    exact ldP_m
  funext i
  by_cases q : i = m
  · subst q
    rw [upH_s, ldP_m]
    unfold kds at *
    rw [em, List.take_succ_eq_append_getElem hk, List.map_append, hc]
    rfl
  · rw [upH_n q]
    unfold ldH ldP
    rw [if_neg q, if_neg q]
    unfold ldH
    by_cases c1 : m + (a - v) ≤ i ∧ i < m + (a - v) + (u' - a)
    · rw [if_pos c1, if_pos (by omega), show a + (i - (m + (a - v))) = v + (i - m) by omega]
      congr 3
      refine List.map_congr_left (fun c hc' => ?_)
      have := hg (v + (i - m)) (by omega) (by omega) c hc'
      omega
    · rw [if_neg c1]
      by_cases c2 : m ≤ i ∧ i < m + (a - v)
      · rw [if_pos c2, if_pos (by omega)]
      · rw [if_neg c2, if_neg (by omega)]
theorem loadM_L (hF : 300 ≤ F) {Q : Hp} {b d v m : Nat} {H : Hp} (ih : LdR F sh n Q b d) (hb : b + v < 16384) (hq : (Q v).1 ≠ 0 ∧ (Q v).1 < 8) (hlen : (kds Q v).length ≤ 64) (hnd : ((kds Q v).map (fun c => m + (c - v))).Nodup) {u : Nat} : ∀ cs k a f z0, k ≤ (kds Q v).length → (kds Q v).drop k = cs → cs.length < f → PreL (Pre Q d) cs a u → v < a → Lay sh n z0 → HM z0 (ldP H m Q v a k) (m + (a - v)) → Nw (ldP H m Q v a k) (m + (a - v)) → Rt (ldP H m Q v a k) m → (∀ r, r < m → Rt H r → Rt (ldP H m Q v a k) r) → Kep z0 Q b v u → z0.1 337 14 = nI (b + a) → m + (u - v) ≤ 24576 → ∃ z', fn_X18_loadOne_L43 F sh n 337 (nI (b + v)) (nI m) (fn_X18_loadOne F sh n d) f z0 (nI k) = some (z', nI m) ∧ HM z' (ldP H m Q v u (kds Q v).length) (m + (u - v)) ∧ Nw (ldP H m Q v u (kds Q v).length) (m + (u - v)) ∧ Rt (ldP H m Q v u (kds Q v).length) m ∧ (∀ r, r < m → Rt H r → Rt (ldP H m Q v u (kds Q v).length) r) ∧ z'.1 337 14 = nI (b + u) ∧ FrL z0 z' := by
  intro cs
  induction cs with
  | nil =>
    intro k a f z0 hkl e hf hp hva hL hM hN hR hR2 hK h14 hm
    obtain ⟨f', rfl⟩ : ∃ q, f = q + 1 := ⟨f - 1, by have : ([] : List Nat).length = 0 := rfl; omega⟩
    have hp : a = u := hp
    subst hp
    have hk : (kds Q v).length ≤ k := List.drop_eq_nil_iff.mp e
    have el : ldP H m Q v a k = ldP H m Q v a (kds Q v).length := by unfold ldP; rw [List.take_of_length_le hk, List.take_length]
    rw [el] at hM hN hR hR2
    refine ⟨z0, ?_, hM, hN, hR, hR2, h14, FrL.rfl'⟩
    obtain ⟨_, _, _, _, k4⟩ := hK v (Nat.le_refl _) hva
    unfold fn_X18_loadOne_L43
    have kk : k < 2 ^ 31 := by omega
    simp only [b_model hL, grd_true, lnk_s, okI_nI hb (by omega), nI_clamp (n := b + v) (by omega), k4]
    rw [if_pos ((nI_leI (by omega) kk).mpr hk)]
  | cons c cs ihc =>
    intro k a f z0 hkl e hf hp hva hL hM hN hR hR2 hK h14 hm
    obtain ⟨f', rfl⟩ : ∃ q, f = q + 1 := ⟨f - 1, by simp at hf; omega⟩
    obtain ⟨ec, u', p1, p2⟩ := hp
    subst ec
    have hk : k < (kds Q v).length := by
      have := congrArg List.length e
      simp at this; omega
    have hck : (kds Q v)[k] = c := by
      have := List.drop_eq_getElem_cons hk
      rw [e] at this
      exact (List.cons.inj this).1.symm
    have ecs : (kds Q v).drop (k + 1) = cs := by
      have := List.drop_eq_getElem_cons hk
      rw [e] at this
      exact (List.cons.inj this).2.symm
    obtain ⟨g1, g2⟩ := Pre.ge d c u' p1
    obtain ⟨l1, l2, l3⟩ := PreL.ge (Q := Q) (fun a u h => Pre.ge d a u h) _ _ _ p2
    obtain ⟨z1, a1, a2, a3, a4, a5, a6, a7⟩ := ih z0 (ldP H m Q v c k) (m + (c - v)) c u' hL hM hN p1 (fun w w1 w2 => hK w (by omega) (by omega)) h14 (by omega)
    have hL1 : Lay sh n z1 := hL.of a7.1
    have em : ldH (ldP H m Q v c k) (m + (c - v)) Q c u' m = ((Q v).1, (Q v).2.1, (Q v).2.2.1, ((kds Q v).take k).map (fun x => m + (x - v))) := by
      unfold ldH
      rw [if_neg (by omega)]
      exact ldP_m
    have mal : (ldH (ldP H m Q v c k) (m + (c - v)) Q c u' m).1 ≠ 0 := by rw [em]; exact hq.1
    have ec2 : (ldH (ldP H m Q v c k) (m + (c - v)) Q c u' (m + (c - v))).1 = (Q c).1 := by
      unfold ldH
      rw [if_pos (by omega)]
      simp
    have cal : (ldH (ldP H m Q v c k) (m + (c - v)) Q c u' (m + (c - v))).1 ≠ 0 := by
      rw [ec2]
      cases d with
      | zero => exact absurd p1 (by simp [Pre])
      | succ d => exact p1.1
    have kdm : kds (ldH (ldP H m Q v c k) (m + (c - v)) Q c u') m = ((kds Q v).take k).map (fun x => m + (x - v)) := by
      show (ldH (ldP H m Q v c k) (m + (c - v)) Q c u' m).2.2.2 = _
      rw [em]
    have eP := ldP_s (H := H) (m := m) hva g1 hk hck (fun w w1 w2 x hx => by have := g2 w w1 w2 x hx; omega)
    have ad := tadd_t (F := F) hF hL1 a2 mal cal (a4 m)
    have nd : (kds (ldH (ldP H m Q v c k) (m + (c - v)) Q c u') m).Nodup := by
      rw [kdm]
      exact ((List.take_sublist k (kds Q v)).map _).nodup hnd
    have hH := ad_H a2 mal cal a4 (by rw [kdm, List.length_map, List.length_take]; omega) nd a3.1
    obtain ⟨n1, n2⟩ := a3.add mal cal a4
    rw [eP] at hH n1 n2
    rw [show m + (c - v) + (u' - c) = m + (u' - v) by omega] at hH n1
    have fA : FrL z1 (adS z1 m (m + (c - v)) (kds (ldH (ldP H m Q v c k) (m + (c - v)) Q c u') m)) := FrL.tr ad_fr
    obtain ⟨z', q1, q2, q3, q4, q5, q6, q7⟩ := ihc (k + 1) u' f' _ (by omega) ecs (by simp at hf; omega) p2 (by omega) (hL1.of fA.1) hH n1 (n2 m (by omega) (a5 m (by omega) hR)) (fun r hrm hr => n2 r (by omega) (a5 r (by omega) (hR2 r hrm hr))) ((a7.trans fA).kep hK) (by rw [ad_fr.2 337 (by omega) |>.1]; exact a6) hm
    refine ⟨z', ?_, q2, q3, q4, q5, q6, (a7.trans fA).trans q7⟩
    obtain ⟨_, _, _, _, k4⟩ := hK v (Nat.le_refl _) (by omega)
    unfold fn_X18_loadOne_L43
    simp only [b_model hL, grd_true, lnk_s, okI_nI hb (by omega), nI_clamp (n := b + v) (by omega), k4]
    rw [if_neg (fun q => by have := (nI_leI (by omega) (by omega)).mp q; omega)]
    simp only [b_model hL, b_trees hL, grd_true, lnk_s, a1, ad, cal_s, nI_1]
    exact q1
theorem PreL.inc {Q : Hp} {d : Nat} : ∀ cs a b, PreL (Pre Q d) cs a b → cs.Nodup ∧ ∀ c, c ∈ cs → a ≤ c := by
  intro cs
  induction cs with
  | nil => intro a b _; exact ⟨by simp, fun c hc => absurd hc (by simp)⟩
  | cons c cs ih =>
    intro a b h
    obtain ⟨e, u, h1, h2⟩ := h
    subst e
    have r1 := (Pre.ge d c u h1).1
    obtain ⟨i1, i2⟩ := ih u b h2
    refine ⟨List.nodup_cons.mpr ⟨fun q => by have := i2 c q; omega, i1⟩, fun x hx => ?_⟩
    rcases List.mem_cons.mp hx with e | e
    · omega
    · have := i2 x e; omega
theorem loadM_t (hF : 300 ≤ F) {Q : Hp} {b : Nat} : ∀ d, LdR F sh n Q b d := by
  intro d
  induction d with
  | zero => intro z H m v u _ _ _ h; exact absurd h (by simp [Pre])
  | succ d ih =>
    intro z H m v u hL hM hN hP hK h14 hm
    have hvu := (Pre.ge (d + 1) v u hP).1
    obtain ⟨p1, p2, p3, p4⟩ := hP
    obtain ⟨k0, k1, k2, k3, k4⟩ := hK v (Nat.le_refl _) hvu
    let z1 : St := si z 337 14 (nI (b + v + 1))
    have f1 : FrL z z1 := ⟨rfl, fun k a _ => ⟨by funext j; simp [z1, si_1, a], rfl⟩, fun j hj => by simp [z1, si_1, hj], rfl⟩
    have hL1 : Lay sh n z1 := hL.of rfl
    have hM1 : HM z1 H m := hM.fr (fun k a b => (f1.2.1 k (by omega) |> fun _ => by funext j; simp [z1, si_1, show k ≠ 337 by omega])) (fun _ _ _ => rfl)
    have mk := makeM_t (F := F) (k := (Q v).1) (x := (Q v).2.1) (y := (Q v).2.2.1) hL1 hM1.1 (by omega) p2
    have hM2 := mm_H hM1 (show m < 24576 by omega) (k := (Q v).1) (x := (Q v).2.1) (y := (Q v).2.2.1) p2
    obtain ⟨w1, w2, w3⟩ := hN.mk (k := (Q v).1) (x := (Q v).2.1) (y := (Q v).2.2.1) p1
    have e0 : upH H m ((Q v).1, (Q v).2.1, (Q v).2.2.1, []) = ldP H m Q v (v + 1) 0 := by
      funext i
      unfold ldP
      by_cases q : i = m
      · subst q; rw [upH_s, if_pos rfl]; simp
      · rw [upH_n q, if_neg q]; unfold ldH; rw [if_neg (by omega)]
    rw [e0] at hM2 w1 w2 w3
    have em : m + 1 = m + (v + 1 - v) := by omega
    rw [em] at hM2 w1
    have f2 : FrL z1 (mmS z1 m (nI (Q v).1) (Q v).2.1 (Q v).2.2.1) := FrL.tr mm_fr
    obtain ⟨i1, i2⟩ := PreL.inc _ _ _ p4
    have hnd : ((kds Q v).map (fun c => m + (c - v))).Nodup := by
      refine List.Pairwise.map _ (fun a b hab => hab) ?_
      refine List.Pairwise.imp_of_mem (fun {a b} ha hb hab => ?_) i1
      have := i2 a ha
      have := i2 b hb
      omega
    obtain ⟨z', q1, q2, q3, q4, q5, q6, q7⟩ := loadM_L (F := F) hF (m := m) (H := H) ih k0 ⟨p1, p2⟩ p3 hnd (u := u) (kds Q v) 0 (v + 1) F _ (by omega) rfl (by omega) p4 (by omega) (hL1.of f2.1) hM2 w1 w2 (fun r _ hr => w3 r hr) ((f1.trans f2).kep hK) (by rw [(mm_fr.2 337 (by omega)).1]; simp [z1, si_1]; rfl) hm
    have ef : ldP H m Q v u (kds Q v).length = ldH H m Q v u := by
      funext i
      unfold ldP
      by_cases q : i = m
      · subst q
        rw [if_pos rfl, List.take_length]
        unfold ldH
        rw [if_pos (by omega)]
        simp
      · rw [if_neg q]
    rw [ef] at q2 q3 q4 q5
    refine ⟨z', ?_, q2, q3, q4, q5, q6, (f1.trans f2).trans q7⟩
    unfold fn_X18_loadOne
    have r1 : z1.1 345 (b + v) = nI (Q v).1 := by simp [z1, si_1]; exact k1
    have r2 : z1.2.1 346 (b + v) = (Q v).2.1 := k2
    have r3 : z1.2.1 347 (b + v) = (Q v).2.2.1 := k3
    have ez : si z 337 14 (nI (b + v) + 1) = z1 := by show _ = si z 337 14 (nI (b + v + 1)); rw [nI_1]
    simp only [b_model hL, grd_true, h14, lt_t, ez, b_model hL1, lnk_s, okI_nI k0 (by omega), nI_clamp (n := b + v) (by omega), r1, r2, r3, mk, cal_s]
    exact q1
end
