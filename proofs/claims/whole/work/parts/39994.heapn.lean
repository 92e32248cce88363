/-! THE REFERENCE'S TREES: become, swap, sizeOf, isAlike -/
section
variable {F n : Nat} {sh : Nat → Nat × Nat} {z : St} {H : Hp} {m : Nat}
theorem nar_8 {k : Nat} (hk : k < 8) : vp_nar .byte (nI k) = nI k := nar_k (by omega)
def bcS (z : St) (a b : Nat) : St := si (sl (sl (si z 350 a (z.1 350 b)) 351 a (z.2.1 351 b)) 352 a (z.2.1 352 b)) 353 a (z.1 353 b)
theorem bc_fr {a b : Nat} : Fr 349 354 z (bcS z a b) := (((Fr.rfl'.si (by omega)).sl (by omega)).sl (by omega)).si (by omega)
theorem become_t {a b : Nat} (hL : Lay sh n z) (h : HM z H m) (ha : (H a).1 ≠ 0) (hb : (H b).1 ≠ 0) : fn_X15_become F sh n z 349 (nI a) (nI b) = some (bcS z a b, ()) := by
  obtain ⟨a1, a2⟩ := h.i1 ha
  obtain ⟨b1, b2⟩ := h.i1 hb
  have k := nar_8 (h.k8 hb)
  unfold fn_X15_become
  simp only [b_trees hL, grd_true, lnk_s, lt_t, si_1, si_2, si_3, sl_1, sl_2, sl_3, Nat.reduceEqDiff, ↓reduceIte, a1, a2, b1, b2, (h.row hb).1, k, bcS]
theorem bc_H {a b : Nat} (h : HM z H m) (ha : (H a).1 ≠ 0) (hb : (H b).1 ≠ 0) (hab : a ≠ b) (hr : Rt H b) : HM (bcS z a b) (upH (upH H a (H b)) b (0, 0, 0, [])) m := by
  refine ⟨h.1, h.2.1, fun i q => ?_⟩
  have hib : i ≠ b := fun e => by subst e; rw [upH_s] at q; exact q rfl
  rw [upH_n hib] at q ⊢
  have nx : (bcS z a b).1 354 = z.1 354 := by funext j; simp [bcS, sl_1, si_1]
  have alv : ∀ c, c ≠ b → (H c).1 ≠ 0 → ((upH (upH H a (H b)) b (0, 0, 0, [])) c).1 ≠ 0 := by
    intro c h1 h2
    rw [upH_n h1]
    by_cases e : c = a
    · subst e; rw [upH_s]; exact hb
    · rw [upH_n e]; exact h2
  by_cases e : i = a
  · subst e
    rw [upH_s]
    obtain ⟨_, b', ⟨d1, d2, d3, d4⟩, d5, d⟩ := h.2.2 b hb
    refine ⟨(h.lt ha).1, b', ⟨by simp [bcS, sl_1, si_1]; exact d1, by simp [bcS, sl_2, si_2]; exact d2, by simp [bcS, sl_2, si_2]; exact d3, ?_⟩, d5, fun c hc => ?_⟩
    · have : (bcS z i b).1 353 i = z.1 353 b := by simp [bcS, sl_1, si_1]
      rw [this]
      exact chm_of d4 (fun c _ => by rw [nx])
    · rw [kds, upH_n hib, upH_s] at hc
      exact alv c (fun e => hr b (e ▸ hc)) (d c hc)
  · rw [upH_n e] at q ⊢
    obtain ⟨a1, b', ⟨d1, d2, d3, d4⟩, d5, d⟩ := h.2.2 i q
    refine ⟨a1, b', ⟨by simp [bcS, sl_1, si_1, e]; exact d1, by simp [bcS, sl_2, si_2, e]; exact d2, by simp [bcS, sl_2, si_2, e]; exact d3, ?_⟩, d5, fun c hc => ?_⟩
    · have : (bcS z a b).1 353 i = z.1 353 i := by simp [bcS, sl_1, si_1, e]
      rw [this]
      exact chm_of d4 (fun c _ => by rw [nx])
    · rw [kds, upH_n hib, upH_n e] at hc
      exact alv c (fun e => hr i (e ▸ hc)) (d c hc)
def smS (z : St) (a b : Nat) : St := si (sl (sl (si (bcS z a b) 350 b (z.1 350 a)) 351 b (z.2.1 351 a)) 352 b (z.2.1 352 a)) 353 b (z.1 353 a)
theorem sm_fr {a b : Nat} : Fr 349 354 z (smS z a b) := (((bc_fr.si (by omega)).sl (by omega)).sl (by omega)).si (by omega)
theorem tswap_t {a b : Nat} (hL : Lay sh n z) (h : HM z H m) (ha : (H a).1 ≠ 0) (hb : (H b).1 ≠ 0) : fn_X15_swap F sh n z 349 (nI a) (nI b) = some (smS z a b, ()) := by
  obtain ⟨a1, a2⟩ := h.i1 ha
  obtain ⟨b1, b2⟩ := h.i1 hb
  have k := nar_8 (h.k8 ha)
  have l3 : (bcS z a b).2.2 = z.2.2 := rfl
  unfold fn_X15_swap
  simp only [b_trees hL, grd_true, lnk_s, lt_t, become_t hL h ha hb, cal_s, l3, si_3, sl_3, a1, a2, b1, b2, (h.row ha).1, k, smS]
theorem sm_H {a b : Nat} (h : HM z H m) (ha : (H a).1 ≠ 0) (hb : (H b).1 ≠ 0) : HM (smS z a b) (upH (upH H a (H b)) b (H a)) m := by
  have nx : (smS z a b).1 354 = z.1 354 := by funext j; simp [smS, bcS, sl_1, si_1]
  have alv : ∀ c, (H c).1 ≠ 0 → ((upH (upH H a (H b)) b (H a)) c).1 ≠ 0 := by
    intro c h2
    by_cases e : c = b
    · subst e; rw [upH_s]; exact ha
    · rw [upH_n e]
      by_cases e : c = a
      · subst e; rw [upH_s]; exact hb
      · rw [upH_n e]; exact h2
  have gen : ∀ i j, (H j).1 ≠ 0 → (H i).1 ≠ 0 → (smS z a b).1 350 i = z.1 350 j → (smS z a b).2.1 351 i = z.2.1 351 j → (smS z a b).2.1 352 i = z.2.1 352 j → (smS z a b).1 353 i = z.1 353 j → i < m ∧ (H j).1 < 8 ∧ NM (smS z a b) (H j) i ∧ (H j).2.2.2.length ≤ 256 ∧ ∀ c, c ∈ (H j).2.2.2 → ((upH (upH H a (H b)) b (H a)) c).1 ≠ 0 := by
    intro i j hj hi e1 e2 e3 e4
    obtain ⟨_, b', ⟨d1, d2, d3, d4⟩, d5, d⟩ := h.2.2 j hj
    exact ⟨(h.lt hi).1, b', ⟨by rw [e1]; exact d1, by rw [e2]; exact d2, by rw [e3]; exact d3, by rw [e4]; exact chm_of d4 (fun c _ => by rw [nx])⟩, d5, fun c hc => alv c (d c hc)⟩
  refine ⟨h.1, h.2.1, fun i q => ?_⟩
  by_cases eb : i = b
  · subst eb
    have e : (upH (upH H a (H i)) i (H a)) i = H a := upH_s _ _ _
    rw [kds, e]
    exact gen i a ha hb (by simp [smS, bcS, sl_1, si_1]) (by simp [smS, bcS, sl_2, si_2]) (by simp [smS, bcS, sl_2, si_2]) (by simp [smS, bcS, sl_1, si_1])
  · by_cases ea : i = a
    · subst ea
      have e : (upH (upH H i (H b)) b (H i)) i = H b := by rw [upH_n eb, upH_s]
      rw [kds, e]
      exact gen i b hb ha (by simp [smS, bcS, sl_1, si_1, eb]) (by simp [smS, bcS, sl_2, si_2, eb]) (by simp [smS, bcS, sl_2, si_2, eb]) (by simp [smS, bcS, sl_1, si_1, eb])
    · have e : (upH (upH H a (H b)) b (H a)) i = H i := by rw [upH_n eb, upH_n ea]
      rw [e] at q
      rw [kds, e]
      exact gen i i q q (by simp [smS, bcS, sl_1, si_1, eb, ea]) (by simp [smS, bcS, sl_2, si_2, eb, ea]) (by simp [smS, bcS, sl_2, si_2, eb, ea]) (by simp [smS, bcS, sl_1, si_1, eb, ea])
def szM (H : Hp) : Nat → Nat → Nat
  | 0, _ => 0
  | d + 1, v => 1 + ((kds H v).map (szM H d)).sum
theorem sizeML_t {rec : St → Nat → Int32 → Option (St × Int32)} {g : Nat → Nat} : ∀ {cs : List Nat} {f acc : Nat}, Lay sh n z → chm z (hm1 cs) cs → (∀ c, c ∈ cs → rec z 349 (nI c) = some (z, nI (g c))) → cs.length < f → fn_X15_sizeOf_L9 F sh n rec 349 f z (nI acc) (hm1 cs) = some (z, nI (acc + (cs.map g).sum))
  | [], f, acc, hL, h, _, hf => by
    obtain ⟨f', rfl⟩ : ∃ g, f = g + 1 := ⟨f - 1, by omega⟩
    unfold fn_X15_sizeOf_L9
    rw [if_pos (by rfl)]; rfl
  | c :: cs, f, acc, hL, h, hr, hf => by
    obtain ⟨f', rfl⟩ : ∃ g, f = g + 1 := ⟨f - 1, by omega⟩
    obtain ⟨h1, h2, h3⟩ := h
    have e := chm_hd h3
    unfold fn_X15_sizeOf_L9
    rw [if_neg (show ¬ hm1 (c :: cs) = -1 from nI_m1 (by omega)), show hm1 (c :: cs) = nI c from rfl, hr c (by simp), cal_s]
    simp only [b_trees hL, grd_true, lnk_s, lt_t, okI_nI h2 (by omega), nI_clamp (n := c) (by omega), e, nI_add]
    rw [sizeML_t hL (by rw [← e]; exact h3) (fun d hd => hr d (by simp [hd])) (by simp at hf; omega), List.map_cons, List.sum_cons, Nat.add_assoc]
theorem sizeM_t (hF : 300 ≤ F) (hL : Lay sh n z) (h : HM z H m) : ∀ d v fu, Tr H d v → d ≤ fu → fn_X15_sizeOf F sh n fu z 349 (nI v) = some (z, nI (szM H d v)) := by
  intro d
  induction d with
  | zero => intro v fu t; exact absurd t (by simp [Tr])
  | succ d ih =>
    intro v fu t hf
    obtain ⟨f', rfl⟩ : ∃ g, fu = g + 1 := ⟨fu - 1, by omega⟩
    obtain ⟨t1, t2, t3⟩ := t
    obtain ⟨_, _, _, r4, r5⟩ := h.row t1
    obtain ⟨b1, b2⟩ := h.i1 t1
    unfold fn_X15_sizeOf
    simp only [b_trees hL, grd_true, lnk_s, lt_t, b1, b2, r4]
    have := sizeML_t (F := F) (rec := fn_X15_sizeOf F sh n f') (g := szM H d) (acc := 1) hL r5 (fun c hc => ih c f' (t3 c hc) (by omega)) (show _ < F by have := h.len t1; omega)
    exact this
/-- are two trees alike -/
def alZ (g : Nat → Nat → Bool) : List Nat → List Nat → Bool
  | [], [] => true
  | a :: as, b :: bs => g a b && alZ g as bs
  | _, _ => false
def alM (H : Hp) : Nat → Nat → Nat → Bool
  | 0, _, _ => true
  | d + 1, a, b => if (H a).1 = (H b).1 then (if (H a).2.1 = (H b).2.1 then (if (H a).2.2.1 = (H b).2.2.1 then alZ (alM H d) (kds H a) (kds H b) else false) else false) else false
theorem alikeML_t {rec : St → Nat → Int32 → Int32 → Option (St × Int32)} {g : Nat → Nat → Bool} : ∀ {cs ds : List Nat} {f : Nat}, Lay sh n z → chm z (hm1 cs) cs → chm z (hm1 ds) ds → (∀ c e, c ∈ cs → e ∈ ds → rec z 349 (nI c) (nI e) = some (z, bI (g c e))) → cs.length < f → fn_X15_isAlike_L64 F sh n rec 349 f z (hm1 cs) (hm1 ds) = some (z, bI (alZ g cs ds))
  | [], ds, f, hL, h, h', _, hf => by
    obtain ⟨f', rfl⟩ : ∃ g, f = g + 1 := ⟨f - 1, by omega⟩
    unfold fn_X15_isAlike_L64
    rw [if_pos (show hm1 [] = -1 from rfl)]
    unfold fn_X15_isAlike_B104
    rw [if_pos (show hm1 [] = -1 from rfl)]
    cases ds with
    | nil => rw [if_pos (show hm1 [] = -1 from rfl)]; rfl
    | cons e es => rw [if_neg (show ¬ hm1 (e :: es) = -1 from nI_m1 (by have := h'.2.1; omega))]; rfl
  | c :: cs, [], f, hL, h, h', _, hf => by
    obtain ⟨f', rfl⟩ : ∃ g, f = g + 1 := ⟨f - 1, by omega⟩
    have hc : ¬ hm1 (c :: cs) = -1 := nI_m1 (by have := h.2.1; omega)
    unfold fn_X15_isAlike_L64
    rw [if_neg hc, if_pos (show hm1 [] = -1 from rfl)]
    unfold fn_X15_isAlike_B104
    rw [if_neg hc]; rfl
  | c :: cs, e :: es, f, hL, h, h', hr, hf => by
    obtain ⟨f', rfl⟩ : ∃ g, f = g + 1 := ⟨f - 1, by omega⟩
    obtain ⟨h1, h2, h3⟩ := h
    obtain ⟨g1, g2, g3⟩ := h'
    have q := chm_hd h3
    have q' := chm_hd g3
    have hc : ¬ nI c = -1 := nI_m1 (by omega)
    have he : ¬ nI e = -1 := nI_m1 (by omega)
    unfold fn_X15_isAlike_L64
    rw [show hm1 (c :: cs) = nI c from rfl, show hm1 (e :: es) = nI e from rfl, if_neg hc, if_neg he, hr c e (by simp) (by simp), cal_s]
    unfold alZ
    cases hg : g c e with
    | false =>
      rw [bI_f, if_pos rfl]
      unfold fn_X15_isAlike_B104
      rw [if_neg hc]; rfl
    | true =>
      rw [bI_t, if_neg one0]
      simp only [b_trees hL, grd_true, lnk_s, lt_t, okI_nI h2 (by omega), nI_clamp (n := c) (by omega), q, okI_nI g2 (by omega), nI_clamp (n := e) (by omega), q', Bool.true_and]
      exact alikeML_t hL (by rw [← q]; exact h3) (by rw [← q']; exact g3) (fun a b ha hb => hr a b (by simp [ha]) (by simp [hb])) (by simp at hf; omega)
theorem alikeM_t (hF : 300 ≤ F) (hL : Lay sh n z) (h : HM z H m) : ∀ d a b fu, Tr H d a → Tr H d b → d ≤ fu → fn_X15_isAlike F sh n fu z 349 (nI a) (nI b) = some (z, bI (alM H d a b)) := by
  intro d
  induction d with
  | zero => intro a b fu t; exact absurd t (by simp [Tr])
  | succ d ih =>
    intro a b fu t t' hf
    obtain ⟨f', rfl⟩ : ∃ g, fu = g + 1 := ⟨fu - 1, by omega⟩
    obtain ⟨t1, t2, t3⟩ := t
    obtain ⟨u1, u2, u3⟩ := t'
    obtain ⟨r1, r2, r3, r4, r5⟩ := h.row t1
    obtain ⟨s1, s2, s3, s4, s5⟩ := h.row u1
    obtain ⟨b1, b2⟩ := h.i1 t1
    obtain ⟨c1, c2⟩ := h.i1 u1
    unfold fn_X15_isAlike
    simp only [b_trees hL, grd_true, lnk_s, lt_t, b1, b2, c1, c2, r1, r2, r3, r4, s1, s2, s3, s4]
    unfold alM
    by_cases e1 : (H a).1 = (H b).1
    · rw [if_pos (by rw [e1]), if_pos e1]
      by_cases e2 : (H a).2.1 = (H b).2.1
      · rw [if_pos e2, if_pos e2]
        by_cases e3 : (H a).2.2.1 = (H b).2.2.1
        · rw [if_pos e3, if_pos e3]
          exact alikeML_t hL r5 s5 (fun c e hc he => ih c e f' (t3 c hc) (u3 e he) (by omega)) (show _ < F by have := h.len t1; omega)
        · rw [if_neg e3, if_neg e3]; rfl
      · rw [if_neg e2, if_neg e2]; rfl
    · rw [if_neg (fun q => e1 ((nI_eq (by have := h.k8 t1; omega) (by have := h.k8 u1; omega)).mp q)), if_neg e1]; rfl
end
