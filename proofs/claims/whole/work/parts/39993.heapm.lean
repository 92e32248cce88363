/-! THE REFERENCE'S TREES: make, add, count, part, takeLast, become, swap -/
theorem nI_m1 {c : Nat} (h : c < 2 ^ 31) : ¬ (nI c = -1) := fun e => by
  have := congrArg Int32.toInt e
  rw [nI_toInt h] at this
  have e2 : (-1 : Int32).toInt = -1 := by decide
  omega
def chm (z : St) : Int32 → List Nat → Prop
  | x, [] => x = -1
  | x, c :: cs => x = nI c ∧ c < 24576 ∧ chm z (z.1 354 c) cs
theorem chm_of {z z' : St} : ∀ {cs : List Nat} {x : Int32}, chm z x cs → (∀ c, c ∈ cs → z'.1 354 c = z.1 354 c) → chm z' x cs
  | [], _, h, _ => h
  | c :: cs, x, h, e => by
    refine ⟨h.1, h.2.1, ?_⟩
    rw [e c (by simp)]
    exact chm_of h.2.2 (fun d hd => e d (by simp [hd]))
def hm1 : List Nat → Int32
  | [] => -1
  | c :: _ => nI c
theorem chm_hd {z : St} {x : Int32} {cs : List Nat} (h : chm z x cs) : x = hm1 cs := by
  cases cs with
  | nil => exact h
  | cons c cs => exact h.1
theorem chm_drop {z : St} : ∀ {cs : List Nat}, chm z (hm1 cs) cs → ∀ k, chm z (hm1 (cs.drop k)) (cs.drop k)
  | _, h, 0 => h
  | [], h, k + 1 => h
  | c :: cs, h, k + 1 => by
    have q := h.2.2
    rw [chm_hd q] at q
    exact chm_drop q k
def NM (z : St) (x : Nd) (i : Nat) : Prop := z.1 350 i = nI x.1 ∧ z.2.1 351 i = x.2.1 ∧ z.2.1 352 i = x.2.2.1 ∧ chm z (z.1 353 i) x.2.2.2
def HM (z : St) (H : Hp) (m : Nat) : Prop := z.1 349 5 = nI m ∧ m ≤ 24576 ∧ ∀ i, (H i).1 ≠ 0 → i < m ∧ (H i).1 < 8 ∧ NM z (H i) i ∧ (H i).2.2.2.length ≤ 256 ∧ ∀ c, c ∈ kds H i → (H c).1 ≠ 0
section
variable {F n : Nat} {sh : Nat → Nat × Nat} {z : St} {H : Hp} {m : Nat}
theorem HM.fr {z' : St} (h : HM z H m) (e1 : ∀ k, 349 ≤ k → k ≤ 354 → z'.1 k = z.1 k) (e2 : ∀ k, 349 ≤ k → k ≤ 354 → z'.2.1 k = z.2.1 k) : HM z' H m := by
  refine ⟨by rw [e1 349 (by omega) (by omega)]; exact h.1, h.2.1, fun i hi => ?_⟩
  obtain ⟨a, b, ⟨d1, d2, d3, d4⟩, d⟩ := h.2.2 i hi
  refine ⟨a, b, ⟨by rw [e1 350 (by omega) (by omega)]; exact d1, by rw [e2 351 (by omega) (by omega)]; exact d2, by rw [e2 352 (by omega) (by omega)]; exact d3, ?_⟩, d⟩
  rw [e1 353 (by omega) (by omega)]
  exact chm_of d4 (fun c _ => by rw [e1 354 (by omega) (by omega)])
theorem HM.lt (h : HM z H m) {i : Nat} (q : (H i).1 ≠ 0) : i < m ∧ i < 24576 := ⟨(h.2.2 i q).1, by have := (h.2.2 i q).1; have := h.2.1; omega⟩
theorem HM.i1 (h : HM z H m) {i : Nat} (q : (H i).1 ≠ 0) : okI (nI i) 24576 = true ∧ (nI i).toNatClampNeg = i := ⟨okI_nI (h.lt q).2 (by omega), nI_clamp (by have := (h.lt q).2; omega)⟩
theorem HM.row (h : HM z H m) {i : Nat} (q : (H i).1 ≠ 0) : z.1 350 i = nI (H i).1 ∧ z.2.1 351 i = (H i).2.1 ∧ z.2.1 352 i = (H i).2.2.1 ∧ z.1 353 i = hm1 (kds H i) ∧ chm z (hm1 (kds H i)) (kds H i) := by
  obtain ⟨_, _, ⟨d1, d2, d3, d4⟩, _⟩ := h.2.2 i q
  have e := chm_hd d4
  exact ⟨d1, d2, d3, e, by rw [← e]; exact d4⟩
theorem HM.k8 (h : HM z H m) {i : Nat} (q : (H i).1 ≠ 0) : (H i).1 < 8 := (h.2.2 i q).2.1
theorem HM.len (h : HM z H m) {i : Nat} (q : (H i).1 ≠ 0) : (kds H i).length ≤ 256 := (h.2.2 i q).2.2.2.1
theorem HM.cl (h : HM z H m) {i : Nat} (q : (H i).1 ≠ 0) : ∀ c, c ∈ kds H i → (H c).1 ≠ 0 := (h.2.2 i q).2.2.2.2
def mmS (z : St) (m : Nat) (k : Int32) (x y : Int64) : St := si (si (sl (sl (si (si z 349 5 (nI (m + 1))) 350 m k) 351 m x) 352 m y) 353 m (-1)) 354 m (-1)
theorem mm_fr {k : Int32} {x y : Int64} : Fr 349 354 z (mmS z m k x y) := (((((Fr.rfl'.si (by omega)).si (by omega)).sl (by omega)).sl (by omega)).si (by omega)).si (by omega)
theorem makeM_t {k : Nat} {x y : Int64} (hL : Lay sh n z) (hu : z.1 349 5 = nI m) (h2 : m < 24576) (hk : k < 8) : fn_X15_make F sh n z 349 (nI k) x y = some (mmS z m (nI k) x y, nI m) := by
  have a3 : okI (nI m) 24576 = true := okI_nI h2 (by omega)
  have a4 : (nI m).toNatClampNeg = m := nI_clamp (by omega)
  unfold fn_X15_make
  simp only [b_trees hL, grd_true, lnk_s, lt_t, si_3, sl_3, hu, a3, a4, mk_nar (show k < 11 by omega), nI_1, mmS]
theorem mm_H (h : HM z H m) (h2 : m < 24576) {k : Nat} {x y : Int64} (hk : k < 8) : HM (mmS z m (nI k) x y) (upH H m (k, x, y, [])) (m + 1) := by
  refine ⟨by simp [mmS, si_1, sl_1], by omega, fun i q => ?_⟩
  by_cases hiu : i = m
  · subst hiu
    rw [upH_s]
    refine ⟨by omega, hk, ⟨by simp [mmS, si_1, sl_1], by simp [mmS, si_2, sl_2], by simp [mmS, si_2, sl_2], by simp [mmS, si_1, sl_1, chm]⟩, by simp, fun c hc => absurd hc (by unfold kds; rw [upH_s]; simp)⟩
  · rw [upH_n hiu] at q ⊢
    obtain ⟨a, b, ⟨d1, d2, d3, d4⟩, d5, d⟩ := h.2.2 i q
    have ne : ∀ c, c ∈ (H i).2.2.2 → c ≠ m := fun c hc => by have := (h.lt (d c hc)).1; omega
    refine ⟨by omega, b, ⟨by simp [mmS, si_1, sl_1, hiu]; exact d1, by simp [mmS, si_2, sl_2, hiu]; exact d2, by simp [mmS, si_2, sl_2, hiu]; exact d3, ?_⟩, d5, fun c hc => ?_⟩
    · have : (mmS z m (nI k) x y).1 353 i = z.1 353 i := by simp [mmS, si_1, sl_1, hiu]
      rw [this]
      refine chm_of d4 (fun c hc => ?_)
      have := ne c hc
      simp [mmS, si_1, sl_1, this]
    · rw [kds, upH_n hiu] at hc
      rw [upH_n (ne c hc)]; exact d c hc
/-- add: behind the last -/
def adS (z : St) (v c : Nat) (cs : List Nat) : St := match cs with
  | [] => si (si z 354 c (-1)) 353 v (nI c)
  | x :: xs => si (si z 354 c (-1)) 354 ((x :: xs).getLast (by simp)) (nI c)
theorem ad_fr {v c : Nat} {cs : List Nat} : Fr 349 354 z (adS z v c cs) := by
  cases cs with
  | nil => exact (Fr.rfl'.si (by omega)).si (by omega)
  | cons x xs => exact (Fr.rfl'.si (by omega)).si (by omega)
theorem addL_t {c : Int32} : ∀ {cs : List Nat} {x f : Nat} {z : St}, Lay sh n z → chm z (nI x) (x :: cs) → cs.length < f → fn_X15_add_L32 F sh n 349 c f z (nI x) = some (si z 354 ((x :: cs).getLast (by simp)) c, ())
  | [], x, f, z, hL, h, hf => by
    obtain ⟨f', rfl⟩ : ∃ g, f = g + 1 := ⟨f - 1, by omega⟩
    obtain ⟨_, h2, h3⟩ := h
    have h3 : z.1 354 x = -1 := h3
    unfold fn_X15_add_L32
    simp only [b_trees hL, grd_true, lnk_s, lt_t, okI_nI h2 (by omega), nI_clamp (n := x) (by omega), h3, if_true, List.getLast_singleton]
  | y :: ys, x, f, z, hL, h, hf => by
    obtain ⟨f', rfl⟩ : ∃ g, f = g + 1 := ⟨f - 1, by omega⟩
    obtain ⟨_, h2, h3, h4, h5⟩ := h
    unfold fn_X15_add_L32
    simp only [b_trees hL, grd_true, lnk_s, lt_t, okI_nI h2 (by omega), nI_clamp (n := x) (by omega), h3, if_neg (nI_m1 (show y < 2 ^ 31 by omega))]
    rw [addL_t hL ⟨rfl, h4, h5⟩ (by simp at hf; omega)]
    congr 3
theorem tadd_t (hF : 300 ≤ F) {v c : Nat} (hL : Lay sh n z) (h : HM z H m) (hv : (H v).1 ≠ 0) (hc : (H c).1 ≠ 0) (hn : c ∉ kds H v) : fn_X15_add F sh n z 349 (nI v) (nI c) = some (adS z v c (kds H v), ()) := by
  obtain ⟨_, _, _, r4, r5⟩ := h.row hv
  obtain ⟨b1, b2⟩ := h.i1 hv
  obtain ⟨c1, c2⟩ := h.i1 hc
  have hl := h.len hv
  unfold fn_X15_add
  simp only [b_trees hL, grd_true, lnk_s, lt_t, si_3, sl_3, b1, b2, c1, c2]
  have e353 : (si z 354 c (-1)).1 353 v = z.1 353 v := by simp [si_1]
  rw [e353, r4]
  generalize kds H v = cs at *
  cases cs with
  | nil => rw [if_pos (by rfl)]; rfl
  | cons x xs =>
    have hx : x < 24576 := r5.2.1
    rw [if_neg (show ¬ hm1 (x :: xs) = -1 from nI_m1 (by omega))]
    have r6 : chm (si z 354 c (-1)) (nI x) (x :: xs) := chm_of r5 (fun d hd => by
      have : d ≠ c := fun e => hn (e ▸ hd)
      simp [si_1, this])
    have hL' : Lay sh n (si z 354 c (-1)) := hL.of rfl
    rw [show hm1 (x :: xs) = nI x from rfl, addL_t hL' r6 (by simp at hl; omega)]
    rfl
theorem ad_chm {z' : St} {c : Nat} (hc : c < 24576) : ∀ {cs : List Nat} {x : Nat} {y : Int32}, chm z y (x :: cs) → (∀ i, i ≠ (x :: cs).getLast (by simp) → i ≠ c → z'.1 354 i = z.1 354 i) → z'.1 354 ((x :: cs).getLast (by simp)) = nI c → z'.1 354 c = -1 → c ∉ x :: cs → (x :: cs).Nodup → chm z' y (x :: cs ++ [c])
  | [], x, y, h, _, e1, e2, _, _ => by
    refine ⟨h.1, h.2.1, ?_⟩
    rw [List.getLast_singleton] at e1
    rw [e1]
    exact ⟨rfl, hc, e2⟩
  | a :: as, x, y, h, e0, e1, e2, hn, nd => by
    have nd' := List.nodup_cons.mp nd
    refine ⟨h.1, h.2.1, ?_⟩
    have hl : (x :: a :: as).getLast (by simp) = (a :: as).getLast (by simp) := List.getLast_cons (by simp)
    have hx : x ≠ (a :: as).getLast (by simp) := fun q => nd'.1 (by rw [q]; exact List.getLast_mem _)
    rw [e0 x (by rw [hl]; exact hx) (fun q => hn (by simp [q]))]
    exact ad_chm hc h.2.2 (fun i q q' => e0 i (by rw [hl]; exact q) q') (by rw [hl] at e1; exact e1) e2 (fun q => hn (by simp [q])) nd'.2
theorem ad_H {v c : Nat} (h : HM z H m) (hv : (H v).1 ≠ 0) (hc : (H c).1 ≠ 0) (hr : Rt H c) (hl : (kds H v).length < 256) (nd : (kds H v).Nodup) (pu : PU H) : HM (adS z v c (kds H v)) (upH H v (setC (H v) (kds H v ++ [c]))) m := by
  have al : ∀ i, (upH H v (setC (H v) (kds H v ++ [c])) i).1 = (H i).1 := by
    intro i
    by_cases q : i = v
    · subst q; rw [upH_s]; rfl
    · rw [upH_n q]
  have hc2 := (h.lt hc).2
  have rows : (adS z v c (kds H v)).1 349 = z.1 349 ∧ (adS z v c (kds H v)).1 350 = z.1 350 ∧ (adS z v c (kds H v)).2.1 = z.2.1 ∧ (∀ i, i ≠ v → (adS z v c (kds H v)).1 353 i = z.1 353 i) ∧ ∀ i, i ≠ c → i ∉ kds H v → (adS z v c (kds H v)).1 354 i = z.1 354 i := by
    unfold adS
    cases hk : kds H v with
    | nil => refine ⟨?_, ?_, ?_, ?_, ?_⟩ <;> simp_all [si_1, si_2, funext_iff]
    | cons x xs =>
      refine ⟨?_, ?_, ?_, ?_, ?_⟩
      · funext j; simp [si_1]
      · funext j; simp [si_1]
      · simp [si_2]
      · intro i _; simp [si_1]
      · intro i hi hm
        have : i ≠ (x :: xs).getLast (by simp) := fun q => hm (by rw [q]; exact List.getLast_mem _)
        simp [si_1, hi, this]
  obtain ⟨q1, q2, q3, q4, q5⟩ := rows
  refine ⟨by rw [q1]; exact h.1, h.2.1, fun i q => ?_⟩
  rw [al] at q ⊢
  obtain ⟨a, b, ⟨d1, d2, d3, d4⟩, d5, d⟩ := h.2.2 i q
  by_cases e : i = v
  · subst e
    rw [upH_s]
    refine ⟨a, b, ⟨by rw [q2]; exact d1, by rw [q3]; exact d2, by rw [q3]; exact d3, ?_⟩, by simp [setC]; omega, fun x hx => ?_⟩
    · show chm _ _ (kds H i ++ [c])
      have d6 : chm z (z.1 353 i) (kds H i) := d4
      have hr' : c ∉ kds H i := hr i
      unfold adS
      cases hk : kds H i with
      | nil =>
        refine ⟨by simp [si_1], hc2, ?_⟩
        simp [si_1, chm]
      | cons x xs =>
        rw [hk] at d6 hr' nd
        have e353 : (si (si z 354 c (-1)) 354 ((x :: xs).getLast (by simp)) (nI c)).1 353 i = z.1 353 i := by simp [si_1]
        have hlc : c ≠ (x :: xs).getLast (by simp) := fun q => hr' (by rw [q]; exact List.getLast_mem _)
        simp only
        rw [e353]
        refine ad_chm hc2 d6 (fun j j1 j2 => by simp [si_1, j1, j2]) (by simp [si_1]) (by simp [si_1, hlc]) hr' nd
    · rw [al]
      rw [kds, upH_s] at hx
      rcases List.mem_append.mp hx with q | q
      · exact d x q
      · rw [List.mem_singleton.mp q]; exact hc
  · rw [upH_n e]
    refine ⟨a, b, ⟨by rw [q2]; exact d1, by rw [q3]; exact d2, by rw [q3]; exact d3, ?_⟩, d5, fun x hx => by rw [al]; rw [kds, upH_n e] at hx; exact d x hx⟩
    rw [q4 i e]
    exact chm_of d4 (fun x hx => q5 x (fun q => hr i (q ▸ hx)) (fun q => e (pu i v x hx q)))
theorem countL_t : ∀ {cs : List Nat} {f acc : Nat}, Lay sh n z → chm z (hm1 cs) cs → cs.length < f → fn_X15_count_L9 F sh n 349 f z (nI acc) (hm1 cs) = some (z, nI (acc + cs.length))
  | [], f, acc, hL, h, hf => by
    obtain ⟨f', rfl⟩ : ∃ g, f = g + 1 := ⟨f - 1, by omega⟩
    unfold fn_X15_count_L9
    rw [if_pos (by rfl)]; rfl
  | c :: cs, f, acc, hL, h, hf => by
    obtain ⟨f', rfl⟩ : ∃ g, f = g + 1 := ⟨f - 1, by omega⟩
    obtain ⟨h1, h2, h3⟩ := h
    have e := chm_hd h3
    unfold fn_X15_count_L9
    rw [if_neg (show ¬ hm1 (c :: cs) = -1 from nI_m1 (by omega))]
    simp only [show hm1 (c :: cs) = nI c from rfl, b_trees hL, grd_true, lnk_s, lt_t, okI_nI h2 (by omega), nI_clamp (n := c) (by omega), e, nI_1]
    rw [countL_t hL (by rw [← e]; exact h3) (by simp at hf; omega), List.length_cons, show acc + 1 + cs.length = acc + (cs.length + 1) by omega]
theorem count_t (hF : 300 ≤ F) {v : Nat} (hL : Lay sh n z) (h : HM z H m) (hv : (H v).1 ≠ 0) : fn_X15_count F sh n z 349 (nI v) = some (z, nI (kds H v).length) := by
  obtain ⟨_, _, _, r4, r5⟩ := h.row hv
  obtain ⟨b1, b2⟩ := h.i1 hv
  unfold fn_X15_count
  simp only [b_trees hL, grd_true, lnk_s, lt_t, b1, b2, r4]
  have := countL_t (F := F) (acc := 0) hL r5 (show _ < F by have := h.len hv; omega)
  rw [Nat.zero_add] at this
  exact this
theorem partL_t {k : Nat} (hk : k < 2 ^ 63) : ∀ {cs : List Nat} {f j : Nat}, Lay sh n z → chm z (hm1 cs) cs → cs.length < f → j ≤ k → fn_X15_part_L19 F sh n (lN k) 349 f z (hm1 cs) (lN j) = some (z, hm1 (cs.drop (k - j)))
  | [], f, j, hL, h, hf, hj => by
    obtain ⟨f', rfl⟩ : ∃ g, f = g + 1 := ⟨f - 1, by omega⟩
    unfold fn_X15_part_L19
    rw [List.drop_nil]
    by_cases c : lN k ≤ lN j
    · rw [if_pos c]
    · rw [if_neg c, if_pos (by rfl)]
  | c :: cs, f, j, hL, h, hf, hj => by
    obtain ⟨f', rfl⟩ : ∃ g, f = g + 1 := ⟨f - 1, by omega⟩
    obtain ⟨h1, h2, h3⟩ := h
    have e := chm_hd h3
    unfold fn_X15_part_L19
    by_cases q : k = j
    · rw [if_pos ((pk_lLE (by omega) (by omega)).mpr (by omega)), q, Nat.sub_self, List.drop_zero]
    · rw [if_neg (fun p => by have := (pk_lLE (by omega) (by omega)).mp p; omega), if_neg (show ¬ hm1 (c :: cs) = -1 from nI_m1 (by omega))]
      simp only [show hm1 (c :: cs) = nI c from rfl, b_trees hL, grd_true, lnk_s, lt_t, okI_nI h2 (by omega), nI_clamp (n := c) (by omega), e, lN_1]
      rw [partL_t hk hL (by rw [← e]; exact h3) (by simp at hf; omega) (by omega), show k - j = (k - (j + 1)) + 1 by omega, List.drop_succ_cons]
theorem tpart_t (hF : 300 ≤ F) {v k : Nat} (hL : Lay sh n z) (h : HM z H m) (hv : (H v).1 ≠ 0) (hk : k < 2 ^ 63) : fn_X15_part F sh n z 349 (nI v) (lN k) = some (z, hm1 ((kds H v).drop k)) := by
  obtain ⟨_, _, _, r4, r5⟩ := h.row hv
  obtain ⟨b1, b2⟩ := h.i1 hv
  unfold fn_X15_part
  rw [if_pos (show (0 : Int64) ≤ lN k from (pk_lLE (a := 0) (by omega) hk).mpr (by omega))]
  simp only [b_trees hL, grd_true, lnk_s, lt_t, b1, b2, r4]
  have := partL_t (F := F) (j := 0) hk hL r5 (show _ < F by have := h.len hv; omega) (by omega)
  exact this
theorem part_neg {v : Int32} {x : Int64} (h : x < 0) : fn_X15_part F sh n z 349 v x = some (z, -1) := by
  unfold fn_X15_part
  rw [if_neg (fun q => by
    have h1 := Int64.lt_iff_toInt_lt.mp h
    have h2 := Int64.le_iff_toInt_le.mp q
    omega)]
def tlS (z : St) (v : Nat) (cs : List Nat) : St := match cs with
  | [] => si z 353 v (-1)
  | x :: xs => si z 354 ((x :: xs).getLast (by simp)) (-1)
theorem tl_fr {v : Nat} {cs : List Nat} : Fr 349 354 z (tlS z v cs) := by
  cases cs with
  | nil => exact Fr.rfl'.si (by omega)
  | cons x xs => exact Fr.rfl'.si (by omega)
theorem tlL_t {v : Nat} (hv : v < 24576) {c : Nat} : ∀ {cs : List Nat} {x f : Nat} {b : Int32}, Lay sh n z → chm z (nI x) (x :: cs ++ [c]) → cs.length + 1 < f → fn_X15_takeLast_L9 F sh n 349 (nI v) f z (nI x) b = some (si z 354 ((x :: cs).getLast (by simp)) (-1), nI c)
  | [], x, f, b, hL, h, hf => by
    obtain ⟨f', rfl⟩ : ∃ g, f = g + 2 := ⟨f - 2, by simp at hf; omega⟩
    obtain ⟨_, h2, h3, h4, h5⟩ := h
    have h5 : z.1 354 c = -1 := h5
    unfold fn_X15_takeLast_L9
    simp only [b_trees hL, grd_true, lnk_s, lt_t, okI_nI h2 (by omega), nI_clamp (n := x) (by omega), h3, if_neg (nI_m1 (show c < 2 ^ 31 by omega))]
    unfold fn_X15_takeLast_L9
    simp only [b_trees hL, grd_true, lnk_s, lt_t, okI_nI h4 (by omega), nI_clamp (n := c) (by omega), h5, if_true, if_neg (nI_m1 (show x < 2 ^ 31 by omega)), okI_nI h2 (by omega), nI_clamp (n := x) (by omega), List.getLast_singleton]
  | y :: ys, x, f, b, hL, h, hf => by
    obtain ⟨f', rfl⟩ : ∃ g, f = g + 1 := ⟨f - 1, by omega⟩
    obtain ⟨_, h2, h3, h4, h5⟩ := h
    unfold fn_X15_takeLast_L9
    simp only [b_trees hL, grd_true, lnk_s, lt_t, okI_nI h2 (by omega), nI_clamp (n := x) (by omega), h3, if_neg (nI_m1 (show y < 2 ^ 31 by omega))]
    rw [tlL_t hv hL (show chm z (nI y) (y :: ys ++ [c]) from ⟨rfl, h4, h5⟩) (by simp at hf; omega)]
    congr 3
theorem takeLast_t (hF : 300 ≤ F) {v c : Nat} {cs : List Nat} (hL : Lay sh n z) (h : HM z H m) (hv : (H v).1 ≠ 0) (hk : kds H v = cs ++ [c]) : fn_X15_takeLast F sh n z 349 (nI v) = some (tlS z v cs, nI c) := by
  obtain ⟨_, _, _, r4, r5⟩ := h.row hv
  obtain ⟨b1, b2⟩ := h.i1 hv
  have hl := h.len hv
  rw [hk] at r4 r5 hl
  unfold fn_X15_takeLast
  simp only [b_trees hL, grd_true, lnk_s, lt_t, b1, b2, r4]
  cases cs with
  | nil =>
    obtain ⟨f', rfl⟩ : ∃ g, F = g + 1 := ⟨F - 1, by omega⟩
    obtain ⟨_, h2, h3⟩ := r5
    have h3 : z.1 354 c = -1 := h3
    unfold fn_X15_takeLast_L9
    simp only [show hm1 ([] ++ [c]) = nI c from rfl, b_trees hL, grd_true, lnk_s, lt_t, okI_nI h2 (by omega), nI_clamp (n := c) (by omega), h3, if_true, b1, b2]
    rfl
  | cons x xs =>
    rw [show hm1 (x :: xs ++ [c]) = nI x from rfl, tlL_t (h.lt hv).2 hL r5 (by simp at hl; omega)]
    rfl
theorem tl_chm {z' : St} {c : Nat} : ∀ {cs : List Nat} {x : Nat} {y : Int32}, chm z y (x :: cs ++ [c]) → (∀ i, i ≠ (x :: cs).getLast (by simp) → z'.1 354 i = z.1 354 i) → z'.1 354 ((x :: cs).getLast (by simp)) = -1 → (x :: cs).Nodup → chm z' y (x :: cs)
  | [], x, y, h, _, e1, _ => ⟨h.1, h.2.1, e1⟩
  | a :: as, x, y, h, e0, e1, nd => by
    have nd' := List.nodup_cons.mp nd
    refine ⟨h.1, h.2.1, ?_⟩
    have hl : (x :: a :: as).getLast (by simp) = (a :: as).getLast (by simp) := List.getLast_cons (by simp)
    have hx : x ≠ (a :: as).getLast (by simp) := fun q => nd'.1 (by rw [q]; exact List.getLast_mem _)
    rw [e0 x (by rw [hl]; exact hx)]
    exact tl_chm h.2.2 (fun i q => e0 i (by rw [hl]; exact q)) (by rw [hl] at e1; exact e1) nd'.2
theorem tl_H {v c : Nat} {cs : List Nat} (h : HM z H m) (hv : (H v).1 ≠ 0) (hk : kds H v = cs ++ [c]) (nd : (kds H v).Nodup) (pu : PU H) : HM (tlS z v cs) (upH H v (setC (H v) cs)) m := by
  have al : ∀ i, (upH H v (setC (H v) cs) i).1 = (H i).1 := by
    intro i
    by_cases q : i = v
    · subst q; rw [upH_s]; rfl
    · rw [upH_n q]
  have rows : (tlS z v cs).1 349 = z.1 349 ∧ (tlS z v cs).1 350 = z.1 350 ∧ (tlS z v cs).2.1 = z.2.1 ∧ (∀ i, i ≠ v → (tlS z v cs).1 353 i = z.1 353 i) ∧ ∀ i, i ∉ cs → (tlS z v cs).1 354 i = z.1 354 i := by
    unfold tlS
    cases cs with
    | nil => refine ⟨?_, ?_, ?_, ?_, ?_⟩ <;> simp_all [si_1, si_2, funext_iff]
    | cons x xs =>
      refine ⟨?_, ?_, ?_, ?_, ?_⟩
      · funext j; simp [si_1]
      · funext j; simp [si_1]
      · simp [si_2]
      · intro i _; simp [si_1]
      · intro i hm
        have : i ≠ (x :: xs).getLast (by simp) := fun q => hm (by rw [q]; exact List.getLast_mem _)
        simp [si_1, this]
  obtain ⟨q1, q2, q3, q4, q5⟩ := rows
  refine ⟨by rw [q1]; exact h.1, h.2.1, fun i q => ?_⟩
  rw [al] at q ⊢
  obtain ⟨a, b, ⟨d1, d2, d3, d4⟩, d5, d⟩ := h.2.2 i q
  by_cases e : i = v
  · subst e
    rw [upH_s]
    have hl := h.len hv
    rw [hk] at hl
    refine ⟨a, b, ⟨by rw [q2]; exact d1, by rw [q3]; exact d2, by rw [q3]; exact d3, ?_⟩, by simp [setC]; simp at hl; omega, fun x hx => ?_⟩
    · show chm _ _ cs
      have d6 : chm z (z.1 353 i) (kds H i) := d4
      rw [hk] at d6 nd
      unfold tlS
      cases cs with
      | nil => simp [si_1, chm]
      | cons x xs =>
        have e353 : (si z 354 ((x :: xs).getLast (by simp)) (-1)).1 353 i = z.1 353 i := by simp [si_1]
        simp only
        rw [e353]
        exact tl_chm d6 (fun j j1 => by simp [si_1, j1]) (by simp [si_1]) (List.nodup_append.mp nd).1
    · rw [al]
      rw [kds, upH_s] at hx
      exact d x (by rw [hk]; exact List.mem_append_left _ hx)
  · rw [upH_n e]
    refine ⟨a, b, ⟨by rw [q2]; exact d1, by rw [q3]; exact d2, by rw [q3]; exact d3, ?_⟩, d5, fun x hx => by rw [al]; rw [kds, upH_n e] at hx; exact d x hx⟩
    rw [q4 i e]
    exact chm_of d4 (fun x hx => q5 x (fun q => e (pu i v x hx (by rw [hk]; exact List.mem_append_left _ q))))
end
