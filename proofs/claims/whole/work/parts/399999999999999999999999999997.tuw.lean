/-! THE REFERENCE'S TREE: all levels -/
def GLv (L : Nat) (G : List (List Plc)) : Prop := G.Pairwise (fun g h => ∀ x y, x ∈ g → y ∈ h → cut (kyN x) L < cut (kyN y) L)
def GOk (L : Nat) (G : List (List Plc)) : Prop := GLv L G ∧ ∀ g, g ∈ G → Shr L g ∧ g ≠ []
def FLv (z z' : St) : Prop := z'.2.2 = z.2.2 ∧ (∀ k, k ≠ 337 → k ≠ 372 → k ≠ 373 → k ≠ 376 → k ≠ 383 → k ≠ 384 → z'.1 k = z.1 k) ∧ (∀ j, j ≠ 14 → z'.1 337 j = z.1 337 j) ∧ (∀ k, k ≠ 374 → k ≠ 375 → k ≠ 382 → z'.2.1 k = z.2.1 k) ∧ ∀ j, j ≠ 9 → z'.1 376 j = z.1 376 j
theorem FLv.trans {z z1 z2 : St} (h : FLv z z1) (h' : FLv z1 z2) : FLv z z2 := ⟨h'.1.trans h.1, fun k a b c d e f => (h'.2.1 k a b c d e f).trans (h.2.1 k a b c d e f), fun j hj => (h'.2.2.1 j hj).trans (h.2.2.1 j hj), fun k a b c => (h'.2.2.2.1 k a b c).trans (h.2.2.2.1 k a b c), fun j hj => (h'.2.2.2.2 j hj).trans (h.2.2.2.2 j hj)⟩
theorem FLv.rfl' {z : St} : FLv z z := ⟨rfl, fun _ _ _ _ _ _ _ => rfl, fun _ _ => rfl, fun _ _ _ _ => rfl, fun _ _ => rfl⟩
theorem NWr.fl {z z' : St} {i : Nat} (h : NWr z z' i) : FLv z z' := ⟨h.1, fun k a b c _ e f => h.2.1 k a b c e f, h.2.2.1, h.2.2.2.1, fun j _ => by rw [h.2.1 376 (by decide) (by decide) (by decide) (by decide) (by decide)]⟩
theorem KWd.fl {z z' : St} {S : List Plc} (h : KWd z S) (f : FLv z z') : KWd z' S := ⟨h.1, fun i x hx k hk => by rw [f.2.2.2.1 377 (by decide) (by decide) (by decide)]; exact h.2 i x hx k hk⟩
theorem len_fl {D R : List (List Plc)} {S : List Plc} (e : D.flatten ++ R.flatten = S) {g : List Plc} (hg : g ∈ R) : g.length ≤ S.length := by
  rw [← e, List.length_append]
  have : g.length ≤ R.flatten.length := by
    obtain ⟨s, t, es⟩ := List.append_of_mem hg
    rw [es, List.flatten_append, List.flatten_cons, List.length_append, List.length_append]
    omega
  omega
section
variable {F n : Nat} {sh : Nat → Nat × Nat} {z z1 z2 : St} {S : List Plc} {f b : Nat}
theorem lvl_l (hF : 400 ≤ F) (hL : Lay sh n z) (kw : KWd z S) (hb : f + b = 255) : ∀ m (D R : List (List Plc)) p2 g z1, R.length ≤ m → R.length < g → FLv z z1 → D.length ≤ p2 → p2 + R.length ≤ 256 → z1.1 376 9 = nI (p2 + R.length) → (∀ i d, D[i]? = some d → NDr z1 S (f + 1) i d) → (∀ i r, R[i]? = some r → NDr z1 S f (p2 + i) r) → GOk (b + 1) R → GOk b D → (∀ d r x y, d ∈ D → r ∈ R → x ∈ d → y ∈ r → cut (kyN x) b < cut (kyN y) b) → D.flatten ++ R.flatten = S → ∃ z' D', fn_X14_level_L4 F sh n 376 (nI b) g z1 (nI D.length) (nI p2) = some (z', ()) ∧ FLv z z' ∧ z'.1 376 9 = nI D'.length ∧ D'.length ≤ 256 ∧ (∀ i d, D'[i]? = some d → NDr z' S (f + 1) i d) ∧ GOk b D' ∧ D'.flatten = S := by
  have l256 := kw.1
  intro m
  induction m with
  | zero =>
    intro D R p2 g z1 hm hg fl hp hc e9 nd nr gr gd gx ef
    obtain ⟨g, rfl⟩ : ∃ q, g = q + 1 := ⟨g - 1, by omega⟩
    have er : R = [] := List.eq_nil_of_length_eq_zero (by omega)
    subst er
    have l1 : Lay sh n z1 := hL.of fl.1
    refine ⟨si z1 376 9 (nI D.length), D, ?_, fl.trans ⟨rfl, fun k _ _ _ q _ _ => si_ok q, fun j _ => by rw [si_ok (by decide)], fun _ _ _ _ => rfl, fun j hj => si_oj hj⟩, si_ss, by omega, fun i d hd => ?_, gd, by rw [List.flatten_nil, List.append_nil] at ef; exact ef⟩
    · rw [fn_X14_level_L4, (b_roots l1).1, grd_true, e9, if_pos ((nI_leW (by omega) (by omega)).mpr (by rw [List.length_nil]; omega)), lt_t]
    · obtain ⟨⟨idx, y, a1, a2⟩, a3, a4, a5⟩ := nd i d hd
      exact ⟨⟨idx, y, by rw [si_ok (by decide)]; exact a1, a2⟩, by rw [si_ok (by decide)]; exact a3, a4, a5⟩
  | succ m ih =>
    intro D R p2 g z1 hm hg fl hp hc e9 nd nr gr gd gx ef
    cases R with
    | nil => exact ih D [] p2 g z1 (by simp) hg fl hp hc e9 nd nr gr gd gx ef
    | cons a R =>
      obtain ⟨g, rfl⟩ : ∃ q, g = q + 1 := ⟨g - 1, by omega⟩
      have l1 : Lay sh n z1 := hL.of fl.1
      have kw1 := kw.fl fl
      rw [List.length_cons] at hm hg hc e9
      obtain ⟨r1, r2⟩ := List.pairwise_cons.mp gr.1
      obtain ⟨sa, a0⟩ := gr.2 a (List.mem_cons_self ..)
      have na : NDr z1 S f p2 a := nr 0 a rfl
      have n9 : ¬ nI (p2 + (R.length + 1)) ≤ nI p2 := fun e => by have := (nI_leW (a := p2 + (R.length + 1)) (b := p2) (by omega) (by omega)).mp e; omega
      have csx : ∀ k, cut k (b + 1) / 2 = cut k b := fun k => cut_s (by omega)
      -- one node by itself
      have one : (∀ r x y, r ∈ R → x ∈ a → y ∈ r → cut (kyN x) b < cut (kyN y) b) → ∃ z' D', fn_X14_level_B48 F sh n 376 (nI p2) (nI D.length) (nI b) (fun z9 q2 q3 => fn_X14_level_L4 F sh n 376 (nI b) g z9 q2 q3) z1 = some (z', ()) ∧ FLv z z' ∧ z'.1 376 9 = nI D'.length ∧ D'.length ≤ 256 ∧ (∀ i d, D'[i]? = some d → NDr z' S (f + 1) i d) ∧ GOk b D' ∧ D'.flatten = S := by
        intro hx
        obtain ⟨z2, b1, b2, b3⟩ := lv_one (F := F) (ko := fun z9 q2 q3 => fn_X14_level_L4 F sh n 376 (nI b) g z9 q2 q3) hF l1 kw1 hb hp (by omega) na sa a0
        have lD : (D ++ [a]).length = D.length + 1 := by rw [List.length_append]; rfl
        obtain ⟨z', D', c1, c2⟩ := ih (D ++ [a]) R (p2 + 1) g z2 (by omega) (by omega) (fl.trans b2.fl) (by omega) (by omega) (by rw [b2.2.1 376 (by decide) (by decide) (by decide) (by decide) (by decide), e9, show p2 + 1 + R.length = p2 + (R.length + 1) by omega]) (fun i d hd => by
          by_cases q : i < D.length
          · rw [List.getElem?_append_left q] at hd
            exact (nd i d hd).of b2 (by omega)
          · have : i = D.length := by
              obtain ⟨w, _⟩ := List.getElem?_eq_some_iff.mp hd
              omega
            subst this
            rw [List.getElem?_append_right (Nat.le_refl _), Nat.sub_self] at hd
            have : a = d := Option.some.inj hd
            subst this
            exact b3) (fun i r hr => by
          have := nr (i + 1) r hr
          rw [show p2 + (i + 1) = p2 + 1 + i by omega] at this
          exact this.of b2 (by omega)) ⟨r2, fun r hr => gr.2 r (List.mem_cons_of_mem _ hr)⟩ ⟨List.pairwise_append.mpr ⟨gd.1, List.pairwise_singleton .., fun d hd r hr x y hx hy => by
            rw [List.mem_singleton.mp hr] at hy
            exact gx d a x y hd (List.mem_cons_self ..) hx hy⟩, fun d hd => by
            rcases List.mem_append.mp hd with w | w
            · exact gd.2 d w
            · rw [List.mem_singleton.mp w]
              exact ⟨fun x y hx hy => cut_lo (sa x y hx hy) (by omega) (by omega), a0⟩⟩ (fun d r x y hd hr hx' hy => by
            rcases List.mem_append.mp hd with w | w
            · exact gx d r x y w (List.mem_cons_of_mem _ hr) hx' hy
            · rw [List.mem_singleton.mp w] at hx'
              exact hx r x y hr hx' hy) (by rw [List.flatten_append, List.flatten_singleton, List.append_assoc, ← ef, List.flatten_cons])
        rw [lD] at c1
        exact ⟨z', D', by rw [b1]; exact c1, c2⟩
      rw [fn_X14_level_L4, (b_roots l1).1, grd_true, e9, if_neg n9, nI_1]
      cases R with
      | nil =>
        rw [if_pos ((nI_leW (by rw [List.length_nil]; omega) (by omega)).mpr (by rw [List.length_nil]; omega))]
        exact one (fun r x y hr => absurd hr (by simp))
      | cons h R =>
        rw [List.length_cons] at hm hg hc e9 n9 ⊢
        obtain ⟨t1, t2⟩ := List.pairwise_cons.mp r2
        obtain ⟨sh', h0⟩ := gr.2 h (List.mem_cons_of_mem _ (List.mem_cons_self ..))
        have nh : NDr z1 S f (p2 + 1) h := nr 1 h rfl
        obtain ⟨i1, y1, q1, q2, q3⟩ := na.1
        obtain ⟨i2, y2, s1, s2, s3⟩ := nh.1
        obtain ⟨r, u1, u2⟩ := agr_t (F := F) (by omega) l1 kw1 q2 s2 (L := b) (by omega)
        have lah : ∀ x y, x ∈ a → y ∈ h → cut (kyN x) (b + 1) < cut (kyN y) (b + 1) := r1 h (List.mem_cons_self ..)
        rw [if_neg (fun e => by have := (nI_leW (a := p2 + (R.length + 1 + 1)) (b := p2 + 1) (by omega) (by omega)).mp e; omega), l1.2.2 376 7 383 rfl, lnk_s, lnk_s, lay_a l1 383 101 256 (by decide) rfl, okI_nI (by omega) (by omega), grd_true, lay_a l1 383 101 256 (by decide) rfl, okI_nI (by omega) (by omega), grd_true, nI_clamp (show p2 < 2 ^ 31 by omega), nI_clamp (show p2 + 1 < 2 ^ 31 by omega), q1, s1, u1, cal_s]
        by_cases c : cut (kyN y1) b = cut (kyN y2) b
        · rw [if_neg (fun w => u2.mp w c)]
          have two : ∀ x y, x ∈ a → y ∈ h → kbt (kyN x) b = 0 ∧ kbt (kyN y) b = 1 ∧ cut (kyN x) b = cut (kyN y1) b ∧ cut (kyN y) b = cut (kyN y1) b := fun x y hx hy => by
            have e1 := cut_lo (M := b) (sa x y1 hx q3) (by omega) (by omega)
            have e2 := cut_lo (M := b) (sh' y y2 hy s3) (by omega) (by omega)
            have lt := lah x y hx hy
            rw [kbt_c (by omega), kbt_c (by omega)] at lt
            have k1 := kbt_2 (k := kyN x) (L := b)
            have k2 := kbt_2 (k := kyN y) (L := b)
            refine ⟨?_, ?_, e1, by omega⟩ <;> omega
          have hl2 : a.length + h.length ≤ 256 := by
            have := len_fl (D := D) (R := [a ++ h] ++ R) (S := S) (by rw [← ef]; simp) (g := a ++ h) (by simp)
            rw [List.length_append] at this
            omega
          obtain ⟨z2, b1, b2, b3⟩ := lv_two (F := F) (ko := fun z9 q2 q3 => fn_X14_level_L4 F sh n 376 (nI b) g z9 q2 q3) hF l1 kw1 hb hp (by omega) na nh a0 h0 hl2 (fun x hx => (two x y2 hx s3).1) (fun y hy => (two y1 y q3 hy).2.1)
          have lD : (D ++ [a ++ h]).length = D.length + 1 := by rw [List.length_append]; rfl
          have ca : ∀ x, x ∈ a ++ h → cut (kyN x) b = cut (kyN y1) b := fun x hx => by
            rcases List.mem_append.mp hx with w | w
            · exact (two x y2 w s3).2.2.1
            · exact (two y1 x q3 w).2.2.2
          obtain ⟨z', D', c1, c2⟩ := ih (D ++ [a ++ h]) R (p2 + 2) g z2 (by omega) (by omega) (fl.trans b2.fl) (by omega) (by omega) (by rw [b2.2.1 376 (by decide) (by decide) (by decide) (by decide) (by decide), e9, show p2 + 2 + R.length = p2 + (R.length + 1 + 1) by omega]) (fun i d hd => by
            by_cases q : i < D.length
            · rw [List.getElem?_append_left q] at hd
              exact (nd i d hd).of b2 (by omega)
            · have : i = D.length := by
                obtain ⟨w, _⟩ := List.getElem?_eq_some_iff.mp hd
                omega
              subst this
              rw [List.getElem?_append_right (Nat.le_refl _), Nat.sub_self] at hd
              have : a ++ h = d := Option.some.inj hd
              subst this
              exact b3) (fun i r hr => by
            have := nr (i + 2) r hr
            rw [show p2 + (i + 2) = p2 + 2 + i by omega] at this
            exact this.of b2 (by omega)) ⟨t2, fun r hr => gr.2 r (List.mem_cons_of_mem _ (List.mem_cons_of_mem _ hr))⟩ ⟨List.pairwise_append.mpr ⟨gd.1, List.pairwise_singleton .., fun d hd r hr x y hx hy => by
              rw [List.mem_singleton.mp hr] at hy
              rw [ca y hy]
              exact gx d a x y1 hd (List.mem_cons_self ..) hx q3⟩, fun d hd => by
              rcases List.mem_append.mp hd with w | w
              · exact gd.2 d w
              · rw [List.mem_singleton.mp w]
                exact ⟨fun x y hx hy => by rw [ca x hx, ca y hy], by simp [a0]⟩⟩ (fun d r x y hd hr hx' hy => by
              rcases List.mem_append.mp hd with w | w
              · exact gx d r x y w (List.mem_cons_of_mem _ (List.mem_cons_of_mem _ hr)) hx' hy
              · rw [List.mem_singleton.mp w] at hx'
                rw [ca x hx']
                have lt := t1 r hr y2 y s3 hy
                have k1 := (two y1 y2 q3 s3)
                have e2 := kbt_c (k := kyN y2) (L := b) (by omega)
                have e3 := csx (kyN y)
                omega) (by rw [List.flatten_append, List.flatten_singleton, ← ef]; simp)
          rw [lD] at c1
          exact ⟨z', D', by rw [b1]; exact c1, c2⟩
        · rw [if_pos (u2.mpr c)]
          refine one (fun r x y hr hx hy => ?_)
          have e1 := cut_lo (M := b) (sa x y1 hx q3) (by omega) (by omega)
          have lt := lah y1 y2 q3 s3
          have c1 := csx (kyN y1)
          have c2 := csx (kyN y2)
          have c3 := csx (kyN y)
          rcases List.mem_cons.mp hr with w | w
          · rw [w] at hy
            have e2 := cut_lo (M := b) (sh' y y2 hy s3) (by omega) (by omega)
            omega
          · have := t1 r w y2 y s3 hy
            omega
/-- one level after the other -/
theorem lvl_a (hF : 700 ≤ F) (hL : Lay sh n z) (kw : KWd z S) : ∀ L g z1 (G : List (List Plc)), L ≤ 256 → L < g → FLv z z1 → z1.1 376 9 = nI G.length → G.length ≤ 256 → (∀ i d, G[i]? = some d → NDr z1 S (256 - L) i d) → GOk L G → G.flatten = S → ∃ z' G', fn_X14_all_L114 F sh n 376 g z1 (nI L - 1) = some (z', ()) ∧ FLv z z' ∧ (∀ i d, G'[i]? = some d → NDr z' S 256 i d) ∧ GOk 0 G' ∧ G'.flatten = S := by
  intro L
  induction L with
  | zero =>
    intro g z1 G h1 h2 fl e9 g256 nd go ef
    obtain ⟨g, rfl⟩ : ∃ q, g = q + 1 := ⟨g - 1, by omega⟩
    exact ⟨z1, G, by rw [fn_X14_all_L114, if_pos (by decide)], fl, nd, go, ef⟩
  | succ L ih =>
    intro g z1 G h1 h2 fl e9 g256 nd go ef
    obtain ⟨g, rfl⟩ : ∃ q, g = q + 1 := ⟨g - 1, by omega⟩
    have l1 : Lay sh n z1 := hL.of fl.1
    obtain ⟨z2, D, a1, a2, a3, a4, a5, a6, a7⟩ := lvl_l (F := F) (f := 255 - L) (b := L) (by omega) l1 (kw.fl fl) (by omega) G.length [] G 0 F z1 (Nat.le_refl _) (by omega) FLv.rfl' (by simp) (by omega) (by rw [Nat.zero_add]; exact e9) (fun i d hd => absurd hd (by simp)) (fun i r hr => by
      have := nd i r hr
      rw [show 256 - (L + 1) = 255 - L by omega] at this
      rw [Nat.zero_add]; exact this) go ⟨List.Pairwise.nil, fun g hg => absurd hg (by simp)⟩ (fun d r x y hd => absurd hd (by simp)) (by rw [List.flatten_nil, List.nil_append]; exact ef)
    obtain ⟨z', G', b1, b2⟩ := ih g z2 D (by omega) (by omega) (fl.trans a2) a3 a4 (fun i d hd => by
      have := a5 i d hd
      rw [show 255 - L + 1 = 256 - L by omega] at this
      exact this) a6 a7
    refine ⟨z', G', ?_, b2⟩
    have e1 : nI (L + 1) - 1 = nI L := (pk_sub (a := L + 1) (b := 1) (by omega)).trans (by rw [show L + 1 - 1 = L by omega])
    have lv : fn_X14_level F sh n z1 376 (nI L) = some (z2, ()) := a1
    rw [fn_X14_all_L114, e1, if_neg (nI_pos (by omega)), lv, cal_s, show nI L + (-1) = nI L - 1 from (Int32.sub_eq_add_neg _ _).symm]
    exact b1
theorem one_g {G : List (List Plc)} (go : GOk 0 G) (ef : G.flatten = S) (ne : S ≠ []) : G[0]? = some S := by
  cases G with
  | nil => rw [List.flatten_nil] at ef; exact absurd ef.symm ne
  | cons a G =>
    cases G with
    | nil =>
      rw [List.flatten_singleton] at ef
      rw [ef]; rfl
    | cons b G =>
      exfalso
      obtain ⟨x, hx⟩ := List.exists_mem_of_ne_nil _ (go.2 a (by simp)).2
      obtain ⟨y, hy⟩ := List.exists_mem_of_ne_nil _ (go.2 b (by simp)).2
      have := (List.pairwise_cons.mp go.1).1 b (by simp) x y hx hy
      rw [cut_0 (kyN_b x), cut_0 (kyN_b y)] at this
      omega
/-- how deep keys part -/
theorem all_86 (hF : 700 ≤ F) (hL : Lay sh n z) (kw : KWd z S) (sk : SrK S) (h5 : z.1 376 5 = nI S.length) : ∀ m i g L, i + m = S.length → m < g → L ≤ 256 → (∀ j x y, j < i → S[j]? = some x → S[j + 1]? = some y → cut (kyN x) L < cut (kyN y) L) → ∃ L', L' ≤ 256 ∧ fn_X14_all_L86 F sh n 376 g z (nI L - 1) (nI i) = fn_X14_all_L114 F sh n 376 F z (nI L' - 1) ∧ ∀ j x y, S[j]? = some x → S[j + 1]? = some y → cut (kyN x) L' < cut (kyN y) L' := by
  have l256 := kw.1
  intro m
  induction m with
  | zero =>
    intro i g L h1 h2 hl ha
    obtain ⟨g, rfl⟩ : ∃ q, g = q + 1 := ⟨g - 1, by omega⟩
    refine ⟨L, hl, ?_, fun j x y hx hy => ha j x y ?_ hx hy⟩
    · rw [fn_X14_all_L86, h5, nI_1, if_pos ((nI_leW (by omega) (by omega)).mpr (by omega))]
    · have := (List.getElem?_eq_some_iff.mp hx).1
      omega
  | succ m ih =>
    intro i g L h1 h2 hl ha
    obtain ⟨g, rfl⟩ : ∃ q, g = q + 1 := ⟨g - 1, by omega⟩
    by_cases c : S.length ≤ i + 1
    · refine ⟨L, hl, ?_, fun j x y hx hy => ha j x y ?_ hx hy⟩
      · rw [fn_X14_all_L86, h5, nI_1, if_pos ((nI_leW (by omega) (by omega)).mpr c)]
      · have := (List.getElem?_eq_some_iff.mp hy).1
        omega
    · have hx : S[i]? = some (S[i]'(by omega)) := List.getElem?_eq_getElem (by omega)
      have hy : S[i + 1]? = some (S[i + 1]'(by omega)) := List.getElem?_eq_getElem (by omega)
      have lt := List.pairwise_iff_getElem.mp sk i (i + 1) (by omega) (by omega) (by omega)
      obtain ⟨r, r1, r2, r3⟩ := rpt_t (F := F) (by omega) hL kw hx hy (by omega)
      have mono : ∀ M, r + 1 ≤ M → M ≤ 256 → cut (kyN (S[i]'(by omega))) M < cut (kyN (S[i + 1]'(by omega))) M := fun M h1 h2 => by
        have le := cut_m (L := M) (Nat.le_of_lt lt)
        have ne : cut (kyN (S[i]'(by omega))) M ≠ cut (kyN (S[i + 1]'(by omega))) M := fun w => r3 (cut_lo w h1 h2)
        omega
      have up : ∀ M, L ≤ M → M ≤ 256 → ∀ j x y, j < i → S[j]? = some x → S[j + 1]? = some y → cut (kyN x) M < cut (kyN y) M := fun M h1 h2 j x y hj hx hy => by
        have a := ha j x y hj hx hy
        have ex := cut_d (k := kyN x) (L := L) (M - L) (by omega)
        have ey := cut_d (k := kyN y) (L := L) (M - L) (by omega)
        rw [show L + (M - L) = M by omega] at ex ey
        apply Nat.lt_of_not_le
        intro w
        have := Nat.div_le_div_right (c := 2 ^ (M - L)) w
        omega
      have lc : (nI L - 1 < nI r) ↔ L < r + 1 := by
        cases L with
        | zero => exact ⟨fun _ => by omega, fun _ => by
            show (-1 : Int32) < nI r
            rw [Int32.lt_iff_toInt_lt, nI_toInt (by omega)]
            have : (-1 : Int32).toInt = -1 := rfl
            omega⟩
        | succ L =>
          rw [show nI (L + 1) - 1 = nI L from (pk_sub (a := L + 1) (b := 1) (by omega)).trans (by rw [show L + 1 - 1 = L by omega]), nI_ltW (by omega) (by omega)]
          omega
      rw [fn_X14_all_L86, h5, nI_1, if_neg (fun e => c ((nI_leW (by omega) (by omega)).mp e)), r2, cal_s, lt_t]
      by_cases d : L < r + 1
      · rw [if_pos (lc.mpr d), show nI r = nI (r + 1) - 1 from ((pk_sub (a := r + 1) (b := 1) (by omega)).trans (by rw [show r + 1 - 1 = r by omega])).symm]
        refine ih (i + 1) g (r + 1) (by omega) (by omega) (by omega) (fun j x y hj hx' hy' => ?_)
        by_cases w : j = i
        · subst w
          rw [hx] at hx'
          rw [hy] at hy'
          rw [← Option.some.inj hx', ← Option.some.inj hy']
          exact mono (r + 1) (by omega) (by omega)
        · exact up (r + 1) (by omega) (by omega) j x y (by omega) hx' hy'
      · rw [if_neg (fun w => d (lc.mp w))]
        refine ih (i + 1) g L (by omega) (by omega) hl (fun j x y hj hx' hy' => ?_)
        by_cases w : j = i
        · subst w
          rw [hx] at hx'
          rw [hy] at hy'
          rw [← Option.some.inj hx', ← Option.some.inj hy']
          exact mono L (by omega) (by omega)
        · exact ha j x y (by omega) hx' hy'
end
