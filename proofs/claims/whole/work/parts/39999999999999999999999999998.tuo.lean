/-! THE CLASS CLIMBS: a block of keys with the same first bits -/
section
variable {F n : Nat} {sh : Nat → Nat × Nat} {z0 z z1 : St} {S : List Plc} {o : Nat → Nat}
theorem cut_sq {a b c L : Nat} (h1 : a ≤ b) (h2 : b ≤ c) (e : cut a L = cut c L) : cut a L = cut b L ∧ cut b L = cut c L := by
  have := cut_m (L := L) h1
  have := cut_m (L := L) h2
  omega
theorem cl_blk (hF : 400 ≤ F) (hL : Lay sh n z0) (sk : SrK S) : ∀ f L A B C st z d g, f + L = 256 → S = A ++ (B ++ C) → B ≠ [] → Shr L B → (∀ x y, x ∈ A → y ∈ B → cut (kyN x) L ≠ cut (kyN y) L) → (∀ x y, x ∈ B → y ∈ C → cut (kyN x) L ≠ cut (kyN y) L) → (∀ x, B = [x] → L = 0 ∨ ∃ y, (y ∈ A ∨ y ∈ C) ∧ cut (kyN y) (L - 1) = cut (kyN x) (L - 1)) → KSt z0 z S o st d → st.length ≤ L → (∀ e, e ∈ st → e.1 ≤ L) → ∃ z' g' u x i, S[i]? = some x ∧ i + 1 = A.length + B.length ∧ x ∈ B ∧ u ≤ L ∧ (∀ y, S[i + 1]? = some y → PtR (kyN x) (kyN y) u) ∧ (S.length ≤ i + 1 → u = 0) ∧ F + L ≤ g' + 256 ∧ fn_X9_rebuild_L36 F sh n 73 (g + B.length) z (nI A.length) = cal (fn_X9_climb_L50 F sh n (nI u) 73 (nI (7 * o i)) g' z' (nI L)) (fun z _ => fn_X9_rebuild_L36 F sh n 73 g z (nI (A.length + B.length))) ∧ KSt z0 z' S o st (trD ndH lfP f B) := by
  have one : ∀ f L A x C st z d g, S = A ++ ([x] ++ C) → (∀ y, y ∈ A → cut (kyN y) L ≠ cut (kyN x) L) → (∀ y, y ∈ C → cut (kyN x) L ≠ cut (kyN y) L) → (L = 0 ∨ ∃ y, (y ∈ A ∨ y ∈ C) ∧ cut (kyN y) (L - 1) = cut (kyN x) (L - 1)) → L ≤ 256 → KSt z0 z S o st d → ∃ z' g' u x' i, S[i]? = some x' ∧ i + 1 = A.length + 1 ∧ x' ∈ [x] ∧ u ≤ L ∧ (∀ y, S[i + 1]? = some y → PtR (kyN x') (kyN y) u) ∧ (S.length ≤ i + 1 → u = 0) ∧ F + L ≤ g' + 256 ∧ fn_X9_rebuild_L36 F sh n 73 (g + 1) z (nI A.length) = cal (fn_X9_climb_L50 F sh n (nI u) 73 (nI (7 * o i)) g' z' (nI L)) (fun z _ => fn_X9_rebuild_L36 F sh n 73 g z (nI (A.length + 1))) ∧ KSt z0 z' S o st (trD ndH lfP f [x]) := by
    intro f L A x C st z d g eS hA hC h1 hL2 h
    have hx : S[A.length]? = some x := by rw [eS, List.getElem?_append_right (Nat.le_refl _), Nat.sub_self]; rfl
    have hl : S.length = A.length + (1 + C.length) := by rw [eS, List.length_append, List.length_append, List.length_singleton]
    have l256 := h.2.1.2.1
    obtain ⟨u, u', z', a1, a2, a3, a4, a5, a6, a7, a8⟩ := cl_beg (F := F) (by omega) hL h sk hx
    rw [eS] at sk
    obtain ⟨s1, s2, s3⟩ := List.pairwise_append.mp sk
    have s4 : ∀ y, y ∈ C → kyN x < kyN y := (List.pairwise_cons.mp s2).1
    have hu : u ≤ L ∧ (1 ≤ L → (∃ y, y ∈ C ∧ cut (kyN y) (L - 1) = cut (kyN x) (L - 1)) → L ≤ u) := by
      cases C with
      | nil => exact ⟨by rw [a6 (by rw [hl]; simp)]; omega, fun _ ⟨y, hy, _⟩ => absurd hy (by simp)⟩
      | cons c C =>
        have hc : S[A.length + 1]? = some c := by
          rw [eS, List.getElem?_append_right (by omega), show A.length + 1 - A.length = 1 by omega]; rfl
        have pt := a5 c hc
        refine ⟨pt.le (hC c (List.mem_cons_self ..)), fun h1 ⟨y, hy, e⟩ => ?_⟩
        have le : kyN c ≤ kyN y := by
          rcases List.mem_cons.mp hy with w | w
          · rw [w]; exact Nat.le_refl _
          · exact Nat.le_of_lt ((List.pairwise_cons.mp (List.pairwise_cons.mp s2).2).1 y w)
        have := pt.gt (by omega) (cut_sq (Nat.le_of_lt (s4 c (List.mem_cons_self ..))) le e.symm).1
        omega
    have hu' : u' ≤ L ∧ (1 ≤ L → (∃ y, y ∈ A ∧ cut (kyN y) (L - 1) = cut (kyN x) (L - 1)) → L ≤ u') := by
      rcases List.eq_nil_or_concat A with w | ⟨A', a, w⟩
      · subst w
        exact ⟨by rw [a8 rfl]; omega, fun _ ⟨y, hy, _⟩ => absurd hy (by simp)⟩
      · rw [List.concat_eq_append] at w
        subst w
        have ha : S[A'.length]? = some a := by
          rw [eS, List.append_assoc, List.getElem?_append_right (Nat.le_refl _), Nat.sub_self]; rfl
        have pt := a7 A'.length a (by rw [List.length_append, List.length_singleton]) ha
        refine ⟨pt.le (hA a (by simp)), fun h1 ⟨y, hy, e⟩ => ?_⟩
        have le : kyN y ≤ kyN a := by
          rcases List.mem_append.mp hy with w | w
          · exact Nat.le_of_lt ((List.pairwise_append.mp s1).2.2 y w a (List.mem_singleton.mpr rfl))
          · rw [List.mem_singleton.mp w]; exact Nat.le_refl _
        have := pt.gt (by omega) (cut_sq le (Nat.le_of_lt (s3 a (by simp) x (by simp))) e).2
        omega
    have em : (if u' < u then u else u') = L := by
      have : L ≤ u ∨ L ≤ u' := by
        rcases h1 with w | ⟨y, w | w, e⟩
        · omega
        · by_cases c : 1 ≤ L
          · exact .inr (hu'.2 c ⟨y, w, e⟩)
          · omega
        · by_cases c : 1 ≤ L
          · exact .inl (hu.2 c ⟨y, w, e⟩)
          · omega
      split <;> omega
    rw [em] at a1
    refine ⟨z', F, u, x, A.length, hx, rfl, List.mem_singleton.mpr rfl, hu.1, a5, a6, by omega, ?_, by rw [trD_1]; exact a2⟩
    rw [fn_X9_rebuild_L36, h.2.1.1, if_neg (fun e => by have := (nI_leW (a := S.length) (b := A.length) (by omega) (by omega)).mp e; omega), a1, nI_1]
  intro f
  induction f with
  | zero =>
    intro L A B C st z d g hf eS hB s hA hC h1 h hs ht
    have e : L = 256 := by omega
    have sk' := sk
    rw [eS] at sk'
    have sB : SrK B := (List.pairwise_append.mp (List.pairwise_append.mp sk').2.1).1
    obtain ⟨x, ex⟩ := Shr.one sB (by rw [← e]; exact s) hB
    subst ex
    exact one 0 L A x C st z d g eS (fun y hy => hA y x hy (by simp)) (fun y hy => hC x y (by simp) hy) (h1 x rfl) (by omega) h
  | succ f ih =>
    intro L A B C st z d g hf eS hB s hA hC h1 h hs ht
    by_cases c1 : ∃ x, B = [x]
    · obtain ⟨x, ex⟩ := c1
      subst ex
      exact one (f + 1) L A x C st z d g eS (fun y hy => hA y x hy (by simp)) (fun y hy => hC x y (by simp) hy) (h1 x rfl) (by omega) h
    · have l2 : 2 ≤ B.length := by
        cases B with
        | nil => exact absurd rfl hB
        | cons x B =>
          cases B with
          | nil => exact absurd ⟨x, rfl⟩ c1
          | cons y B => simp
      have hL2 : L < 256 := by omega
      have e255 : 255 - f = L := by omega
      have sk' := sk
      rw [eS] at sk'
      have sB : SrK B := (List.pairwise_append.mp (List.pairwise_append.mp sk').2.1).1
      have dn : ∀ a b, cut a L ≠ cut b L → cut a (L + 1) ≠ cut b (L + 1) := fun a b w e => w (cut_lo e (by omega) (by omega))
      have low : ∀ i x u, S[i]? = some x → x ∈ B → i + 1 = A.length + B.length → u ≤ L + 1 → (∀ y, S[i + 1]? = some y → PtR (kyN x) (kyN y) u) → (S.length ≤ i + 1 → u = 0) → u ≤ L := by
        intro i x u e1 e2 e3 e4 e5 e6
        cases C with
        | nil => rw [e6 (by rw [eS, e3]; simp)]; omega
        | cons c C =>
          have := e5 c (by rw [eS, e3, ← List.append_assoc, List.getElem?_append_right (by rw [List.length_append]; omega), List.length_append, Nat.sub_self]; rfl)
          exact this.le (hC x c e2 (by simp))
      obtain ⟨B0, B1, eB, q0, q1⟩ := Shr.split hL2 sB s
      by_cases n0 : B0 = []
      · subst n0
        rw [List.nil_append] at eB
        subst eB
        obtain ⟨z', g', u, x, i, r1, r2, r3, r4, r5, r6, r7, r8, r9⟩ := ih (L + 1) A B C st z d g (by omega) eS hB (s.up hL2 q1) (fun x y hx hy => dn _ _ (hA x y hx hy)) (fun x y hx hy => dn _ _ (hC x y hx hy)) (fun x e => absurd ⟨x, e⟩ c1) h (by omega) (fun e he => by have := ht e he; omega)
        have uL := low i x u r1 r3 r2 r4 r5 r6
        obtain ⟨g'', rfl⟩ : ∃ q, g' = q + 1 := ⟨g' - 1, by omega⟩
        obtain ⟨z2, v1, v2⟩ := cl_up1 (F := F) (by omega) hL r9 (by omega) r1 hL2 uL (q1 x r3) ht (g := g'')
        exact ⟨z2, g'', u, x, i, r1, r2, r3, uL, r5, r6, by omega, by rw [r8, v1], by rw [trD_r l2 (by rw [e255]; exact q1)]; exact v2⟩
      · by_cases n1 : B1 = []
        · subst n1
          rw [List.append_nil] at eB
          subst eB
          obtain ⟨z', g', u, x, i, r1, r2, r3, r4, r5, r6, r7, r8, r9⟩ := ih (L + 1) A B C st z d g (by omega) eS hB (s.up hL2 q0) (fun x y hx hy => dn _ _ (hA x y hx hy)) (fun x y hx hy => dn _ _ (hC x y hx hy)) (fun x e => absurd ⟨x, e⟩ c1) h (by omega) (fun e he => by have := ht e he; omega)
          have uL := low i x u r1 r3 r2 r4 r5 r6
          obtain ⟨g'', rfl⟩ : ∃ q, g' = q + 1 := ⟨g' - 1, by omega⟩
          obtain ⟨z2, v1, v2⟩ := cl_up0 (F := F) (by omega) hL r9 r1 hL2 uL (q0 x r3) (g := g'')
          exact ⟨z2, g'', u, x, i, r1, r2, r3, uL, r5, r6, by omega, by rw [r8, v1], by rw [trD_l l2 (by rw [e255]; exact q0)]; exact v2⟩
        · subst eB
          have m0 : ∃ y0, y0 ∈ B0 := List.exists_mem_of_ne_nil _ n0
          obtain ⟨y0, hy0⟩ := m0
          have hbs : ∀ x y, x ∈ B0 → y ∈ B1 → cut (kyN x) L = cut (kyN y) L ∧ cut (kyN x) (L + 1) ≠ cut (kyN y) (L + 1) := fun x y hx hy => by
            have e := s x y (List.mem_append_left _ hx) (List.mem_append_right _ hy)
            refine ⟨e, ?_⟩
            rw [kbt_c hL2, kbt_c hL2, e, q0 x hx, q1 y hy]
            omega
          obtain ⟨y1, t1, e1⟩ : ∃ y t, B1 = y :: t := by
            cases B1 with
            | nil => exact absurd rfl n1
            | cons y t => exact ⟨y, t, rfl⟩
          have hy1 : y1 ∈ B1 := by rw [e1]; simp
          obtain ⟨z', g', u, x, i, r1, r2, r3, r4, r5, r6, r7, r8, r9⟩ := ih (L + 1) A B0 (B1 ++ C) st z d (g + B1.length) (by omega) (by rw [eS, List.append_assoc]) n0 (Shr.up hL2 (fun x y hx hy => s x y (List.mem_append_left _ hx) (List.mem_append_left _ hy)) q0) (fun x y hx hy => dn _ _ (hA x y hx (List.mem_append_left _ hy))) (fun x y hx hy => by
            rcases List.mem_append.mp hy with w | w
            · exact (hbs x y hx w).2
            · exact dn _ _ (hC x y (List.mem_append_left _ hx) w)) (fun x ex => .inr ⟨y1, .inr (List.mem_append_left _ hy1), by
              rw [Nat.add_sub_cancel]
              exact (hbs x y1 (by rw [ex]; simp) hy1).1.symm⟩) h (by omega) (fun e he => by have := ht e he; omega)
          have nx : S[i + 1]? = some y1 := by
            rw [eS, r2, ← List.append_assoc, ← List.append_assoc, List.append_assoc (A ++ B0), List.getElem?_append_right (by rw [List.length_append]; omega), List.length_append, Nat.sub_self, e1]
            rfl
          have pt := r5 y1 nx
          have u1 : u = L + 1 := by
            have := pt.gt (by omega) (hbs x y1 r3 hy1).1
            omega
          subst u1
          obtain ⟨g'', rfl⟩ : ∃ q, g' = q + 1 := ⟨g' - 1, by omega⟩
          obtain ⟨z1, v1, v2⟩ := cl_push (F := F) (v := 7 * o i) hL r9 (by omega) (u := L + 1) (by omega) (g := g'')
          rw [v1, cal_s] at r8
          obtain ⟨z3, g3, u3, x3, i3, p1, p2, p3, p4, p5, p6, p7, p8, p9⟩ := ih (L + 1) (A ++ B0) B1 C _ z1 _ g (by omega) (by rw [eS, List.append_assoc, List.append_assoc]) n1 (Shr.up hL2 (fun x y hx hy => s x y (List.mem_append_right _ hx) (List.mem_append_right _ hy)) q1) (fun x y hx hy => by
            rcases List.mem_append.mp hx with w | w
            · exact dn _ _ (hA x y w (List.mem_append_right _ hy))
            · exact (hbs x y w hy).2) (fun x y hx hy => dn _ _ (hC x y (List.mem_append_right _ hx) hy)) (fun x ex => .inr ⟨y0, .inl (List.mem_append_right _ hy0), by
              rw [Nat.add_sub_cancel]
              exact (hbs y0 x hy0 (by rw [ex]; simp)).1⟩) v2 (by rw [List.length_append, List.length_singleton]; omega) (fun e he => by
              rcases List.mem_append.mp he with w | w
              · have := ht e w; omega
              · rw [List.mem_singleton.mp w]; exact Nat.le_refl _)
          have ln : (B0 ++ B1).length = B0.length + B1.length := List.length_append
          have ln2 : (A ++ B0).length = A.length + B0.length := List.length_append
          have i3e : i3 + 1 = A.length + (B0 ++ B1).length := by rw [ln, p2, ln2]; omega
          have uL := low i3 x3 u3 p1 (List.mem_append_right _ p3) i3e p4 p5 p6
          obtain ⟨g4, rfl⟩ : ∃ q, g3 = q + 1 := ⟨g3 - 1, by omega⟩
          obtain ⟨z5, w1, w2⟩ := cl_up2 (F := F) (by omega) hL p9 (by omega) p1 hL2 uL (q1 x3 p3) (g := g4)
          refine ⟨z5, g4, u3, x3, i3, p1, i3e, List.mem_append_right _ p3, uL, p5, p6, by omega, ?_, by rw [trD_b n0 n1 (by rw [e255]; exact q0) (by rw [e255]; exact q1)]; exact w2⟩
          rw [ln, show g + (B0.length + B1.length) = g + B1.length + B0.length by omega, r8, ← ln2, p8, w1, ln2, Nat.add_assoc]
/-- the root is put into its row -/
theorem reb_57 (hL : Lay sh n z) (v : D4) (hv : ∀ k, k < 4 → (if z.1 73 7 = 0 then 0 else z.2.1 84 k) = v k) : ∀ m k g z1, k + m = 4 → m < g → (z1.1 = z.1 ∧ z1.2.2 = z.2.2 ∧ (∀ c, c ≠ 74 → z1.2.1 c = z.2.1 c) ∧ ∀ i, i < k → z1.2.1 74 i = v i) → ∃ z', fn_X9_rebuild_L57 F sh n 73 g z1 (nI k) = some (z', ()) ∧ FCr z z' ∧ ∀ i, i < 4 → z'.2.1 74 i = v i := by
  intro m
  induction m with
  | zero =>
    intro k g z1 h1 h2 ⟨c1, c2, c3, c4⟩
    obtain ⟨g, rfl⟩ : ∃ q, g = q + 1 := ⟨g - 1, by omega⟩
    have e : k = 4 := by omega
    subst e
    refine ⟨z1, ?_, ⟨c2, fun k q => ⟨by rw [c1], c3 k (by omega)⟩, by rw [c1]⟩, c4⟩
    rw [fn_X9_rebuild_L57, if_pos (by decide)]
  | succ m ih =>
    intro k g z1 h1 h2 ⟨c1, c2, c3, c4⟩
    obtain ⟨g, rfl⟩ : ∃ q, g = q + 1 := ⟨g - 1, by omega⟩
    have l1 : Lay sh n z1 := hL.of c2
    obtain ⟨z', a1, a2⟩ := ih (k + 1) g (sl z1 74 k (v k)) (by omega) (by omega) ⟨c1, c2, fun c hc => by rw [sl_ok hc]; exact c3 c hc, fun i hi => by
      by_cases e : i = k
      · subst e; rw [sl_ss]
      · rw [sl_oj e]; exact c4 i (by omega)⟩
    refine ⟨z', ?_, a2⟩
    have b84 : ∀ x, x = v k → fn_X9_rebuild_B84 F sh n 74 (nI k) (fun z9 q2 => fn_X9_rebuild_L57 F sh n 73 g z9 q2) z1 x = some (z', ()) := fun x hx => by
      unfold fn_X9_rebuild_B84
      rw [lay_a l1 74 102 4 (by decide) rfl, okI_nI (by omega) (by omega), grd_true, nI_clamp (by omega), lt_t, nI_1, hx]
      exact a1
    have vk := hv k (by omega)
    rw [fn_X9_rebuild_L57, if_neg (show ¬ (4 : Int32) ≤ nI k from fun e => by have := (nI_leW (a := 4) (b := k) (by omega) (by omega)).mp e; omega), (b_tree l1).2.1, lnk_s, c1]
    by_cases c : z.1 73 7 = 0
    · rw [if_pos c] at vk ⊢
      exact b84 _ vk
    · rw [if_neg c] at vk ⊢
      rw [l1.2.2 73 10 84 rfl, lnk_s, lay_a l1 84 102 1028 (by decide) rfl, okI_nI (by omega) (by omega), grd_true, nI_clamp (by omega)]
      exact b84 _ (by rw [c3 84 (by decide)]; exact vk)
theorem reb_t (hF : 700 ≤ F) (hL : Lay sh n z) (sk : SrK S) (c : CSt z S o) : ∃ z', fn_X9_rebuild_L36 F sh n 73 F (si z 73 12 0) 0 = some (z', ()) ∧ FCr z z' ∧ ∀ k, k < 4 → z'.2.1 74 k = trD ndH lfP 256 S k := by
  have l256 := c.2.1
  have K : KSt z (si z 73 12 0) S o [] (fun k => z.2.1 83 k) := ⟨⟨rfl, fun k q => ⟨si_ok (by omega), rfl⟩, si_oj (by decide)⟩, c.of (si_oj (by decide)) (si_ok (by decide)) rfl rfl, ⟨si_ss, fun s e he => absurd he (by simp)⟩, fun _ _ => rfl⟩
  obtain ⟨F', eF⟩ : ∃ q, F = q + 1 := ⟨F - 1, by omega⟩
  by_cases e : S = []
  · obtain ⟨z', a, b, d⟩ := reb_57 (F := F) (z := si z 73 12 0) (hL.of rfl) (trD ndH lfP 256 S) (fun k _ => by
      rw [K.2.1.1, e, if_pos (show nI ([] : List Plc).length = 0 from rfl), trD_n]) 4 0 F _ (by omega) (by omega) ⟨rfl, rfl, fun _ _ => rfl, fun i hi => absurd hi (by omega)⟩
    refine ⟨z', ?_, K.1.trans b, d⟩
    conv => lhs; arg 5; rw [eF]
    rw [fn_X9_rebuild_L36, K.2.1.1, e, if_pos (show nI ([] : List Plc).length ≤ 0 by decide)]
    exact a
  · obtain ⟨z1, g', u, x, i, r1, r2, r3, r4, r5, r6, r7, r8, r9⟩ := cl_blk (F := F) (by omega) hL sk 256 0 [] S [] [] _ _ (F - S.length) (by omega) (by simp) e (fun x y _ _ => by rw [cut_0 (kyN_b x), cut_0 (kyN_b y)]) (fun x y hx => absurd hx (by simp)) (fun x y _ hy => absurd hy (by simp)) (fun x _ => .inl rfl) K (by simp) (fun e he => absurd he (by simp))
    have u0 : u = 0 := by omega
    subst u0
    obtain ⟨g'', rfl⟩ : ∃ q, g' = q + 1 := ⟨g' - 1, by omega⟩
    obtain ⟨z2, v1, v2⟩ := cl_push (F := F) (v := 7 * o i) hL r9 (by simp) (u := 0) (by omega) (g := g'')
    have n0 : ¬ nI S.length = 0 := fun w => by
      have := nI_uq (b := 0) w (by omega) (by omega)
      exact e (List.eq_nil_of_length_eq_zero this)
    obtain ⟨z', a, b, d⟩ := reb_57 (F := F) (v2.lay hL) (trD ndH lfP 256 S) (fun k hk => by
      rw [v2.2.1.1, if_neg n0]
      have := (v2.2.2.1.2 0 (0, trD ndH lfP 256 S) rfl).2.2 k hk
      rw [Nat.mul_zero, Nat.zero_add] at this
      exact this) 4 0 F _ (by omega) (by omega) ⟨rfl, rfl, fun _ _ => rfl, fun i hi => absurd hi (by omega)⟩
    refine ⟨z', ?_, v2.1.trans b, d⟩
    rw [v1, cal_s, show F - S.length + S.length = F by omega] at r8
    refine Eq.trans r8 ?_
    obtain ⟨q, eq⟩ : ∃ q, F - S.length = q + 1 := ⟨F - S.length - 1, by omega⟩
    rw [eq, fn_X9_rebuild_L36, v2.2.1.1, List.length_nil, Nat.zero_add, if_pos ((nI_leW (by omega) (by omega)).mpr (Nat.le_refl _))]
    exact a
end
