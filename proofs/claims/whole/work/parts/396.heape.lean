/-! the class's heap: assign, swap, sizeOf, areAlike -/
theorem nar_k {k : Nat} (hk : k < 11) : vp_nar .byte (nI k) = nI k := by
  have : ∀ k, k < 11 → vp_nar .byte (nI k) = nI k := by decide
  exact this k hk
def asS (z : St) (a b : Nat) : St := sl (sl (si z 89 a (z.1 89 b)) 90 a (z.2.1 90 b)) 91 a (z.2.1 91 b)
theorem assign_t {F n : Nat} {sh : Nat → Nat × Nat} {z : St} {H : Hp} {u : Nat} {s : Int32} {a b : Nat} (hL : Lay sh n z) (h : HC z H u s) (ha : (H a).1 ≠ 0) (hb : (H b).1 ≠ 0) : fn_X1_assign F sh n z 88 (nI a) (nI b) = some (asS z a b, ()) := by
  obtain ⟨a1, a2⟩ := h.i1 ha
  obtain ⟨b1, b2⟩ := h.i1 hb
  have k := nar_k (h.k11 hb)
  have na : ¬ (nI a = 0) := nI_ne0 (h.lt ha).1 (by have := (h.lt ha).2.2; omega)
  unfold fn_X1_assign
  rw [if_neg na]
  simp only [b_heap hL, grd_true, lnk_s, lt_t, si_1, si_2, si_3, sl_1, sl_2, sl_3, Nat.reduceEqDiff, ↓reduceIte, a1, a2, b1, b2, h.kd hb, k, asS]
theorem as_fr {z : St} {a b : Nat} : Fr 88 92 z (asS z a b) := ((Fr.rfl'.si (by omega)).sl (by omega)).sl (by omega)
theorem as_H {z : St} {H : Hp} {u : Nat} {s : Int32} {a b : Nat} (h : HC z H u s) (ha : (H a).1 ≠ 0) (hb : (H b).1 ≠ 0) (hab : a ≠ b) (hr : rootH H b) : HC (asS z a b) (upH (upH H a (H b)) b (0, 0, 0, [])) u s := by
  refine ⟨h.1, h.2.1, h.2.2.1, h.2.2.2.1, fun i q => ?_⟩
  have hib : i ≠ b := fun e => by subst e; rw [upH_s] at q; exact q rfl
  rw [upH_n hib] at q ⊢
  have nx : (asS z a b).1 92 = z.1 92 := by funext j; simp [asS, sl_1, si_1]
  have alv : ∀ c, c ≠ b → (H c).1 ≠ 0 → ((upH (upH H a (H b)) b (0, 0, 0, [])) c).1 ≠ 0 := by
    intro c h1 h2
    rw [upH_n h1]
    by_cases e : c = a
    · subst e; rw [upH_s]; exact hb
    · rw [upH_n e]; exact h2
  by_cases e : i = a
  · subst e
    rw [upH_s]
    obtain ⟨_, _, b', ⟨d1, d2, d3⟩, d⟩ := h.2.2.2.2 b hb
    refine ⟨(h.lt ha).1, (h.lt ha).2.1, b', ⟨?_, fun g => ?_, fun g => ?_⟩, fun c hc => alv c (fun e => hr b hb (e ▸ hc)) (d c hc)⟩
    · simp [asS, sl_1, si_1]; exact d1
    · obtain ⟨q1, q2, q3, q4⟩ := d2 g
      exact ⟨by simp [asS, sl_2, si_2]; exact q1, by simp [asS, sl_2, si_2]; exact q2, chn_of q3 (fun c _ => by rw [nx]), q4⟩
    · obtain ⟨q1, q2⟩ := d3 g
      exact ⟨by simp [asS, sl_2, si_2]; exact q1, by simp [asS, sl_2, si_2]; exact q2⟩
  · rw [upH_n e] at q ⊢
    obtain ⟨a1, b1, b', ⟨d1, d2, d3⟩, d⟩ := h.2.2.2.2 i q
    refine ⟨a1, b1, b', ⟨?_, fun g => ?_, fun g => ?_⟩, fun c hc => alv c (fun e => hr i q (e ▸ hc)) (d c hc)⟩
    · simp [asS, sl_1, si_1, e]; exact d1
    · obtain ⟨q1, q2, q3, q4⟩ := d2 g
      exact ⟨by simp [asS, sl_2, si_2, e]; exact q1, by simp [asS, sl_2, si_2, e]; exact q2, chn_of q3 (fun c _ => by rw [nx]), q4⟩
    · obtain ⟨q1, q2⟩ := d3 g
      exact ⟨by simp [asS, sl_2, si_2, e]; exact q1, by simp [asS, sl_2, si_2, e]; exact q2⟩
def swS (z : St) (a b : Nat) : St := sl (sl (si (asS z a b) 89 b (z.1 89 a)) 90 b (z.2.1 90 a)) 91 b (z.2.1 91 a)
theorem swap_t {F n : Nat} {sh : Nat → Nat × Nat} {z : St} {H : Hp} {u : Nat} {s : Int32} {a b : Nat} (hL : Lay sh n z) (h : HC z H u s) (ha : (H a).1 ≠ 0) (hb : (H b).1 ≠ 0) : fn_X1_swap F sh n z 88 (nI a) (nI b) = some (swS z a b, ()) := by
  obtain ⟨a1, a2⟩ := h.i1 ha
  obtain ⟨b1, b2⟩ := h.i1 hb
  have k := nar_k (h.k11 ha)
  have l3 : (asS z a b).2.2 = z.2.2 := rfl
  have nb : ¬ (nI b = 0) := nI_ne0 (h.lt hb).1 (by have := (h.lt hb).2.2; omega)
  unfold fn_X1_swap
  rw [if_neg nb]
  simp only [b_heap hL, grd_true, lnk_s, lt_t, assign_t hL h ha hb, cal_s, l3, si_3, sl_3, a1, a2, b1, b2, h.kd ha, k, swS]
theorem sw_fr {z : St} {a b : Nat} : Fr 88 92 z (swS z a b) := (((as_fr.si (by omega)).sl (by omega)).sl (by omega))
theorem sw_H {z : St} {H : Hp} {u : Nat} {s : Int32} {a b : Nat} (h : HC z H u s) (ha : (H a).1 ≠ 0) (hb : (H b).1 ≠ 0) : HC (swS z a b) (upH (upH H a (H b)) b (H a)) u s := by
  have nx : (swS z a b).1 92 = z.1 92 := by funext j; simp [swS, asS, sl_1, si_1]
  have alv : ∀ c, (H c).1 ≠ 0 → ((upH (upH H a (H b)) b (H a)) c).1 ≠ 0 := by
    intro c h2
    by_cases e : c = b
    · subst e; rw [upH_s]; exact ha
    · rw [upH_n e]
      by_cases e : c = a
      · subst e; rw [upH_s]; exact hb
      · rw [upH_n e]; exact h2
  have gen : ∀ i j, (H j).1 ≠ 0 → (H i).1 ≠ 0 → (swS z a b).1 89 i = z.1 89 j → (swS z a b).2.1 90 i = z.2.1 90 j → (swS z a b).2.1 91 i = z.2.1 91 j → 0 < i ∧ i < u ∧ (H j).1 < 11 ∧ NC (swS z a b) (H j) i ∧ ∀ c ∈ (H j).2.2.2, ((upH (upH H a (H b)) b (H a)) c).1 ≠ 0 := by
    intro i j hj hi e1 e2 e3
    obtain ⟨_, _, b', ⟨d1, d2, d3⟩, d⟩ := h.2.2.2.2 j hj
    refine ⟨(h.lt hi).1, (h.lt hi).2.1, b', ⟨by rw [e1]; exact d1, fun g => ?_, fun g => ?_⟩, fun c hc => alv c (d c hc)⟩
    · obtain ⟨q1, q2, q3, q4⟩ := d2 g
      exact ⟨by rw [e3]; exact q1, by rw [e2]; exact q2, chn_of q3 (fun c _ => by rw [nx]), q4⟩
    · obtain ⟨q1, q2⟩ := d3 g
      exact ⟨by rw [e3]; exact q1, by rw [e2]; exact q2⟩
  refine ⟨h.1, h.2.1, h.2.2.1, h.2.2.2.1, fun i q => ?_⟩
  by_cases eb : i = b
  · subst eb
    rw [upH_s]
    exact gen i a ha hb (by simp [swS, asS, sl_1, si_1]) (by simp [swS, asS, sl_2, si_2]) (by simp [swS, asS, sl_2, si_2])
  · rw [upH_n eb] at q ⊢
    by_cases ea : i = a
    · subst ea
      rw [upH_s]
      exact gen i b hb ha (by simp [swS, asS, sl_1, si_1, eb]) (by simp [swS, asS, sl_2, si_2, eb]) (by simp [swS, asS, sl_2, si_2, eb])
    · rw [upH_n ea] at q ⊢
      exact gen i i q q (by simp [swS, asS, sl_1, si_1, eb, ea]) (by simp [swS, asS, sl_2, si_2, eb, ea]) (by simp [swS, asS, sl_2, si_2, eb, ea])
/-- a tree of depth d at most -/
def Tr (H : Hp) : Nat → Nat → Prop
  | 0, _ => False
  | d + 1, v => (H v).1 ≠ 0 ∧ (¬ inn (H v).1 → (H v).2.2.2 = []) ∧ ∀ c ∈ (H v).2.2.2, Tr H d c
def szA (H : Hp) : Nat → Nat → Nat
  | 0, _ => 0
  | d + 1, v => if (H v).1 = 10 then 2 else 1 + ((H v).2.2.2.map (szA H d)).sum
/-- sizes, cut off behind 20000 -/
def cuS (g : Nat → Nat) : Nat → List Nat → Nat
  | a, [] => a
  | a, c :: cs => if 20000 < a then a else cuS g (a + g c) cs
def szB (H : Hp) : Nat → Nat → Nat
  | 0, _ => 0
  | d + 1, v => if (H v).1 = 10 then 2 else cuS (szB H d) 1 (H v).2.2.2
/-- t is e, or both are beyond 20000 -/
def Szq (t e : Nat) : Prop := t = e ∨ (20000 < t ∧ t < e)
theorem cuS_q {g k : Nat → Nat} : ∀ {cs : List Nat} {a b : Nat}, (∀ c ∈ cs, Szq (g c) (k c)) → Szq a b → Szq (cuS g a cs) (b + (cs.map k).sum)
  | [], a, b, _, h => by simpa [cuS] using h
  | c :: cs, a, b, hg, h => by
    unfold cuS
    rw [List.map_cons, List.sum_cons]
    by_cases q : 20000 < a
    · rw [if_pos q]
      unfold Szq at h ⊢
      omega
    · rw [if_neg q, ← Nat.add_assoc]
      refine cuS_q (fun x hx => hg x (by simp [hx])) ?_
      have := hg c (by simp)
      unfold Szq at this h ⊢
      omega
theorem szB_q {H : Hp} : ∀ d v, Szq (szB H d v) (szA H d v)
  | 0, _ => .inl rfl
  | d + 1, v => by
    unfold szB szA
    by_cases q : (H v).1 = 10
    · rw [if_pos q, if_pos q]; exact .inl rfl
    · rw [if_neg q, if_neg q]
      exact cuS_q (fun c _ => szB_q d c) (.inl rfl)
theorem cuS_b {g : Nat → Nat} {w : Nat} : ∀ {cs : List Nat} {a : Nat}, (∀ c ∈ cs, g c ≤ w) → a ≤ 20000 + w → cuS g a cs ≤ 20000 + w
  | [], a, _, h => h
  | c :: cs, a, hg, h => by
    unfold cuS
    by_cases q : 20000 < a
    · rw [if_pos q]; exact h
    · rw [if_neg q]
      exact cuS_b (fun x hx => hg x (by simp [hx])) (by have := hg c (by simp); omega)
theorem szB_b {H : Hp} : ∀ d v, szB H d v ≤ 20000 * d + 2
  | 0, _ => by simp [szB]
  | d + 1, v => by
    unfold szB
    by_cases q : (H v).1 = 10
    · rw [if_pos q]; omega
    · rw [if_neg q]
      have := cuS_b (g := szB H d) (w := 20000 * d + 2) (cs := (H v).2.2.2) (a := 1) (fun c _ => szB_b d c) (by omega)
      omega
theorem sizeL_t {F n : Nat} {sh : Nat → Nat × Nat} {z : St} {H : Hp} {u : Nat} {s : Int32} (hL : Lay sh n z) (h : HC z H u s) {v : Nat} (hv : (H v).1 ≠ 0) (hi : inn (H v).1) {rec : St → Nat → Int32 → Int32 → Option (St × Int32)} {x1 : Int32} {g : Nat → Nat} {w : Nat} (hw : w ≤ 1000000) (hg : ∀ c, g c ≤ w) (hr : ∀ c ∈ (H v).2.2.2, rec z 88 (nI c) (x1 + 1) = some (z, nI (g c))) : ∀ k m f acc, m + k = (H v).2.2.2.length → k < f → acc ≤ 20000 + w → fn_X1_sizeAt_L45 F sh n 88 (nI v) rec x1 f z (nI acc) (nI (hd0 ((H v).2.2.2.drop m))) (lN m) = some (z, nI (cuS g acc ((H v).2.2.2.drop m))) := by
  obtain ⟨a1, a2, a3, a4⟩ := h.inr hv hi
  obtain ⟨b1, b2⟩ := h.i1 hv
  intro k
  induction k with
  | zero =>
    intro m f acc e hf _
    obtain ⟨f', rfl⟩ : ∃ g, f = g + 1 := ⟨f - 1, by omega⟩
    unfold fn_X1_sizeAt_L45
    simp only [b_heap hL, grd_true, lnk_s, lt_t, b1, b2, a1]
    rw [if_pos ((lN_le (by omega) (by omega)).mpr (by omega)), List.drop_eq_nil_of_le (by omega)]
    rfl
  | succ k ih =>
    intro m f acc e hf hacc
    obtain ⟨f', rfl⟩ : ∃ g, f = g + 1 := ⟨f - 1, by omega⟩
    have hm : m < (H v).2.2.2.length := by omega
    have q := chn_drop a3 m
    rw [drop_c hm] at q ⊢
    obtain ⟨_, q2, q3, q4⟩ := q
    have q5 := chn_hd q4
    unfold fn_X1_sizeAt_L45
    simp only [b_heap hL, grd_true, lnk_s, lt_t, b1, b2, a1]
    rw [if_neg (fun q => by have := (lN_le (by omega) (by omega)).mp q; omega), hd0_c, if_neg (nI_ne0 q2 (by omega))]
    unfold cuS
    by_cases qc : 20000 < acc
    · rw [if_pos (show (20000 : Int32) < nI acc from (nI_ltI (a := 20000) (by omega) (by omega)).mpr qc), if_pos qc]
    · rw [if_neg (show ¬ (20000 : Int32) < nI acc from fun w => qc ((nI_ltI (a := 20000) (by omega) (by omega)).mp w)), if_neg qc, hr _ (List.getElem_mem _), cal_s]
      simp only [b_heap hL, grd_true, lnk_s, okI_nI q3 (by omega), nI_clamp (n := (H v).2.2.2[m]) (by omega), q5, nI_add, lN_1]
      rw [ih (m + 1) f' _ (by omega) (by omega) (by have := hg (H v).2.2.2[m]; omega)]
theorem sizeAt_t {F n : Nat} {sh : Nat → Nat × Nat} {z : St} {H : Hp} {u : Nat} {s : Int32} (hF : 300 ≤ F) (hL : Lay sh n z) (h : HC z H u s) : ∀ d v dep fu, Tr H d v → d + dep ≤ 40 → d ≤ fu → fn_X1_sizeAt F sh n fu z 88 (nI v) (nI dep) = some (z, nI (szB H d v)) := by
  intro d
  induction d with
  | zero => intro v dep fu t; exact absurd t (by simp [Tr])
  | succ d ih =>
    intro v dep fu t hd hf
    obtain ⟨f', rfl⟩ : ∃ g, fu = g + 1 := ⟨fu - 1, by omega⟩
    obtain ⟨t1, t2, t3⟩ := t
    obtain ⟨b1, b2⟩ := h.i1 t1
    have hk := h.k11 t1
    unfold fn_X1_sizeAt
    simp only [b_heap hL, grd_true, lnk_s, b1, b2, h.kd t1]
    by_cases c10 : (H v).1 = 10
    · rw [if_pos (by rw [c10]; rfl)]
      simp only [szB, c10, if_true]
      rfl
    · rw [if_neg (fun q => c10 ((nIe (x := 10) 10 rfl (by omega) (by omega)).mp q))]
      simp only [szB, if_neg c10]
      by_cases ci : inn (H v).1
      · obtain ⟨a1, a2, a3, a4⟩ := h.inr t1 ci
        rw [holds_i ci, cal_s, if_neg one0, if_neg (fun q => by have := (nIge (x := 40) 40 rfl (by omega) (by omega)).mp q; omega)]
        simp only [b_heap hL, grd_true, lnk_s, b1, b2, lt_t, a2, lN_i]
        have := sizeL_t (F := F) (rec := fn_X1_sizeAt F sh n f') (x1 := nI dep) (g := szB H d) (w := 20000 * d + 2) hL h t1 ci (by omega) (fun c => szB_b d c) (fun c hc => by rw [nI_1]; exact ih c (dep + 1) f' (t3 c hc) (by omega) (by omega)) (H v).2.2.2.length 0 F 1 (by omega) (by omega) (by omega)
        exact this
      · rw [holds_n hk ci, cal_s, if_pos rfl, t2 ci]
        rfl
theorem sizeOf_t {F n : Nat} {sh : Nat → Nat × Nat} {z : St} {H : Hp} {u : Nat} {s : Int32} (hF : 300 ≤ F) (hL : Lay sh n z) (h : HC z H u s) {d v : Nat} (t : Tr H d v) (hd : d ≤ 40) : fn_X1_sizeOf F sh n z 88 (nI v) = some (z, nI (szB H d v)) := by
  unfold fn_X1_sizeOf
  rw [show (0 : Int32) = nI 0 from rfl, sizeAt_t hF hL h d v 0 48 t (by omega) (by omega), cal_s]
  simp only [b_heap hL, grd_true]
/-- are two trees alike -/
def alA (H : Hp) : Nat → Nat → Nat → Bool
  | 0, _, _ => true
  | d + 1, a, b => if (H a).1 = (H b).1 then (if inn (H a).1 then (if (H a).2.2.2.length = (H b).2.2.2.length then ((H a).2.2.2.zip (H b).2.2.2).all (fun p => alA H d p.1 p.2) else false) else (if (H a).2.1 = (H b).2.1 then decide ((H a).2.2.1 = (H b).2.2.1) else false)) else false
def bI (b : Bool) : Int32 := if b then 1 else 0
theorem bI_t : bI true = 1 := rfl
theorem bI_f : bI false = 0 := rfl
theorem alikeL_t {F n : Nat} {sh : Nat → Nat × Nat} {z : St} {H : Hp} {u : Nat} {s : Int32} (hL : Lay sh n z) (h : HC z H u s) {a b dep : Nat} (ha : (H a).1 ≠ 0) (hia : inn (H a).1) (hb : (H b).1 ≠ 0) (hib : inn (H b).1) (hd : dep < 40) (hlen : (H a).2.2.2.length = (H b).2.2.2.length) {rec : St → Nat → Int32 → Int32 → Int32 → Option (St × Int32)} {g : Nat → Nat → Bool} (hr : ∀ c ∈ (H a).2.2.2, ∀ e ∈ (H b).2.2.2, rec z 88 (nI c) (nI e) (nI dep + 1) = some (z, bI (g c e))) : ∀ k m f, m + k = (H a).2.2.2.length → k < f → fn_X1_alikeAt_L88 F sh n 88 (nI a) (nI dep) rec f z (nI (hd0 ((H a).2.2.2.drop m))) (nI (hd0 ((H b).2.2.2.drop m))) (lN m) = some (z, bI ((((H a).2.2.2.drop m).zip ((H b).2.2.2.drop m)).all (fun p => g p.1 p.2))) := by
  obtain ⟨a1, a2, a3, a4⟩ := h.inr ha hia
  obtain ⟨_, _, e3, _⟩ := h.inr hb hib
  obtain ⟨b1, b2⟩ := h.i1 ha
  intro k
  induction k with
  | zero =>
    intro m f e hf
    obtain ⟨f', rfl⟩ : ∃ g, f = g + 1 := ⟨f - 1, by omega⟩
    unfold fn_X1_alikeAt_L88
    simp only [b_heap hL, grd_true, lnk_s, lt_t, b1, b2, a1]
    rw [if_pos ((lN_le (by omega) (by omega)).mpr (by omega)), List.drop_eq_nil_of_le (by omega)]
    rfl
  | succ k ih =>
    intro m f e hf
    obtain ⟨f', rfl⟩ : ∃ g, f = g + 1 := ⟨f - 1, by omega⟩
    have hm : m < (H a).2.2.2.length := by omega
    have hm2 : m < (H b).2.2.2.length := by omega
    have q := chn_drop a3 m
    have p := chn_drop e3 m
    rw [drop_c hm] at q ⊢
    rw [drop_c hm2] at p ⊢
    obtain ⟨_, q2, q3, q4⟩ := q
    obtain ⟨_, p2, p3, p4⟩ := p
    have q5 := chn_hd q4
    have p5 := chn_hd p4
    unfold fn_X1_alikeAt_L88
    simp only [b_heap hL, grd_true, lnk_s, lt_t, b1, b2, a1]
    rw [if_neg (fun q => by have := (lN_le (by omega) (by omega)).mp q; omega), if_neg (fun q => by have := (nIge (x := 40) 40 rfl (by omega) (by omega)).mp q; omega), hd0_c, hd0_c, if_neg (nI_ne0 q2 (by omega)), if_neg (nI_ne0 p2 (by omega)), hr _ (List.getElem_mem _) _ (List.getElem_mem _), cal_s]
    cases hg : g (H a).2.2.2[m] (H b).2.2.2[m] with
    | false =>
      rw [bI_f, if_pos rfl, List.zip_cons_cons, List.all_cons]
      simp only [hg, Bool.false_and]
      rfl
    | true =>
      rw [bI_t, if_neg one0]
      simp only [b_heap hL, grd_true, lnk_s, okI_nI q3 (by omega), nI_clamp (n := (H a).2.2.2[m]) (by omega), q5, okI_nI p3 (by omega), nI_clamp (n := (H b).2.2.2[m]) (by omega), p5, lN_1]
      rw [ih (m + 1) f' (by omega) (by omega), List.zip_cons_cons, List.all_cons]
      simp only [hg, Bool.true_and]
theorem alikeAt_t {F n : Nat} {sh : Nat → Nat × Nat} {z : St} {H : Hp} {u : Nat} {s : Int32} (hF : 300 ≤ F) (hL : Lay sh n z) (h : HC z H u s) : ∀ d a b dep fu, Tr H d a → Tr H d b → d + dep ≤ 40 → d ≤ fu → fn_X1_alikeAt F sh n fu z 88 (nI a) (nI b) (nI dep) = some (z, bI (alA H d a b)) := by
  intro d
  induction d with
  | zero => intro a b dep fu t; exact absurd t (by simp [Tr])
  | succ d ih =>
    intro a b dep fu t t' hd hf
    obtain ⟨f', rfl⟩ : ∃ g, fu = g + 1 := ⟨fu - 1, by omega⟩
    obtain ⟨t1, t2, t3⟩ := t
    obtain ⟨u1, u2, u3⟩ := t'
    obtain ⟨b1, b2⟩ := h.i1 t1
    obtain ⟨c1, c2⟩ := h.i1 u1
    have hk := h.k11 t1
    have hk2 := h.k11 u1
    unfold fn_X1_alikeAt
    simp only [b_heap hL, grd_true, lnk_s, b1, b2, c1, c2, h.kd t1, h.kd u1]
    unfold alA
    by_cases ck : (H a).1 = (H b).1
    · rw [if_pos (by rw [ck]), if_pos ck]
      by_cases ci : inn (H a).1
      · have ci2 : inn (H b).1 := ck ▸ ci
        obtain ⟨a1, a2, a3, a4⟩ := h.inr t1 ci
        obtain ⟨e1, e2, e3, e4⟩ := h.inr u1 ci2
        rw [if_pos ci, a1, e1]
        by_cases cl : (H a).2.2.2.length = (H b).2.2.2.length
        · rw [if_pos (by rw [cl]), if_pos cl, holds_i ci, cal_s, if_neg one0]
          simp only [b_heap hL, grd_true, lnk_s, lt_t, b1, b2, c1, c2, a2, e2, lN_i]
          have := alikeL_t (F := F) (rec := fn_X1_alikeAt F sh n f') (g := alA H d) hL h t1 ci u1 ci2 (dep := dep) (by omega) cl (fun c hc e he => by rw [nI_1]; exact ih c e (dep + 1) f' (t3 c hc) (u3 e he) (by omega) (by omega)) (H a).2.2.2.length 0 F (by omega) (by omega)
          exact this
        · rw [if_neg (fun q => cl ((pk_lEQ (by omega) (by omega)).mp q)), if_neg cl]
          rfl
      · have ci2 : ¬ inn (H b).1 := ck ▸ ci
        obtain ⟨a1, a2⟩ := h.leaf t1 ci
        obtain ⟨e1, e2⟩ := h.leaf u1 ci2
        rw [if_neg ci, a1, e1]
        by_cases cl : (H a).2.1 = (H b).2.1
        · rw [if_pos cl, if_pos cl, holds_n hk ci, cal_s, if_pos rfl]
          simp only [b_heap hL, grd_true, lnk_s, lt_t, b1, b2, c1, c2, a2, e2]
          by_cases cm : (H a).2.2.1 = (H b).2.2.1
          · rw [if_pos cm]; simp [cm, bI]
          · rw [if_neg cm]; simp [cm, bI]
        · rw [if_neg cl, if_neg cl]
          rfl
    · rw [if_neg (fun q => ck ((nI_eq (by omega) (by omega)).mp q)), if_neg ck]
      rfl
theorem areAlike_t {F n : Nat} {sh : Nat → Nat × Nat} {z : St} {H : Hp} {u : Nat} {s : Int32} (hF : 300 ≤ F) (hL : Lay sh n z) (h : HC z H u s) {d a b : Nat} (ta : Tr H d a) (tb : Tr H d b) (hd : d ≤ 40) : fn_X1_areAlike F sh n z 88 (nI a) (nI b) = some (z, bI (alA H d a b)) := by
  unfold fn_X1_areAlike
  rw [show (0 : Int32) = nI 0 from rfl, alikeAt_t hF hL h d a b 0 48 ta tb (by omega) (by omega), cal_s]
  have : okZ (bI (alA H d a b)) = true := by cases alA H d a b <;> rfl
  simp only [b_heap hL, grd_true, this]
