/-! THE CLASS COLLECTS PLACES: doubles are left out; accounts -/
theorem CPl.cg {z : St} {P Q : Plc → Prop} {O : Ord} (h : CPl z P O) (e : ∀ x, P x ↔ Q x) : CPl z Q O := ⟨h.1, h.2.1, h.2.2.1, fun a ha => ⟨(h.2.2.2.1 a ha).1, (e _).mp (h.2.2.2.1 a ha).2.1, (h.2.2.2.1 a ha).2.2⟩, fun x hx => h.2.2.2.2.1 x ((e x).mpr hx), h.2.2.2.2.2⟩
theorem CPl.ft {z z' : St} {P : Plc → Prop} {O : Ord} {kd : Nat} (h : CPl z P O) (f : FTr z z' kd) (h1 : kd ≠ 78) (h2 : kd ≠ 79) : CPl z' P O := by
  refine ⟨by rw [f.2.1 73 (by decide) (by decide) (by decide)]; exact h.1, h.2.1, fun i e he => by rw [f.2.1 81 (by decide) (by decide) (by decide)]; exact h.2.2.1 i e he, fun e he => ⟨(h.2.2.2.1 e he).1, (h.2.2.2.1 e he).2.1, (h.2.2.2.1 e he).2.2.of (f.2.2 78 (by decide) (Ne.symm h1)) (f.2.2 79 (by decide) (Ne.symm h2))⟩, h.2.2.2.2.1, h.2.2.2.2.2⟩
section
variable {F n : Nat} {sh : Nat → Nat × Nat} {z z1 : St} {O : Ord} {P : Plc → Prop} {l : List Int32}
theorem lod_l (hF : 100 ≤ F) (hL : Lay sh n z) (h : CPl z P O) : ∀ m i g (K : Ord) z', i + m = O.length → m < g → FOr z z' → z'.1 73 7 = nI O.length → K.length ≤ i → (∀ j e, K[j]? = some e → z'.1 81 j = nI e.1) → (∀ j e, i ≤ j → O[j]? = some e → z'.1 81 j = nI e.1) → K.Pairwise (fun a b => kyN a.2 < kyN b.2) → (∀ e, e ∈ K → e ∈ O.take i) → (∀ e, e ∈ O.take i → ∃ e', e' ∈ K ∧ kyN e'.2 = kyN e.2 ∧ rwN e'.2 ≤ rwN e.2) → ∃ (z'' : St) (K' : Ord), fn_X9_leaveOutDoubles_L4 F sh n 73 g z' (nI K.length) (nI i) = some (z'', ()) ∧ FOr z z'' ∧ z''.1 73 7 = nI K'.length ∧ K'.length ≤ 256 ∧ (∀ j e, K'[j]? = some e → z''.1 81 j = nI e.1) ∧ K'.Pairwise (fun a b => kyN a.2 < kyN b.2) ∧ (∀ e, e ∈ K' → e ∈ O) ∧ (∀ e, e ∈ O → ∃ e', e' ∈ K' ∧ kyN e'.2 = kyN e.2 ∧ rwN e'.2 ≤ rwN e.2) := by
  have l256 := h.2.1
  intro m
  induction m with
  | zero =>
    intro i g K z' h1 h2 f e7 kl a1 a2 ks k1 k2
    obtain ⟨g, rfl⟩ : ∃ q, g = q + 1 := ⟨g - 1, by omega⟩
    have lz : Lay sh n z' := hL.of (by rw [f.1])
    have et : O.take i = O := List.take_of_length_le (by omega)
    rw [et] at k1 k2
    refine ⟨si z' 73 7 (nI K.length), K, ?_, ⟨f.1, fun k q1 q2 => by rw [si_ok q1]; exact f.2.1 k q1 q2, fun j hj => by rw [si_oj hj]; exact f.2.2 j hj⟩, si_ss, by omega, fun j e he => by rw [si_ok (by decide)]; exact a1 j e he, ks, k1, k2⟩
    rw [fn_X9_leaveOutDoubles_L4, (b_tree lz).1, grd_true, e7, if_pos ((nI_leW (by omega) (by omega)).mpr (by omega)), lt_t]
  | succ m ih =>
    intro i g K z' h1 h2 f e7 kl a1 a2 ks k1 k2
    obtain ⟨g, rfl⟩ : ∃ q, g = q + 1 := ⟨g - 1, by omega⟩
    have lz : Lay sh n z' := hL.of (by rw [f.1])
    have hi : i < O.length := by omega
    have eo : O[i]? = some O[i] := List.getElem?_eq_getElem hi
    have mo : O[i] ∈ O := List.getElem_mem hi
    have ai := a2 i _ (Nat.le_refl _) eo
    have et : O.take (i + 1) = O.take i ++ [O[i]] := by rw [List.take_succ, eo]; rfl
    have ed : O.drop i = O[i] :: O.drop (i + 1) := List.drop_eq_getElem_cons hi
    have sle : ∀ e, e ∈ O.take i → rwN e.2 ≤ rwN O[i].2 := fun e he => by
      have s := h.2.2.2.2.2
      rw [← List.take_append_drop i O] at s
      exact (List.pairwise_append.mp s).2.2 e he O[i] (by rw [ed]; exact List.mem_cons_self ..)
    have ob : okA sh n 81 101 (nI i) = true := by rw [lay_a lz 81 101 256 (by decide) rfl]; exact okI_nI (by omega) (by omega)
    have add : (∀ e, e ∈ K → kyN e.2 < kyN O[i].2) → ∃ (z'' : St) (K' : Ord), fn_X9_leaveOutDoubles_B40 F sh n 73 (nI i) (nI K.length) (fun z9 q1 q2 => fn_X9_leaveOutDoubles_L4 F sh n 73 g z9 q1 q2) z' = some (z'', ()) ∧ FOr z z'' ∧ z''.1 73 7 = nI K'.length ∧ K'.length ≤ 256 ∧ (∀ j e, K'[j]? = some e → z''.1 81 j = nI e.1) ∧ K'.Pairwise (fun a b => kyN a.2 < kyN b.2) ∧ (∀ e, e ∈ K' → e ∈ O) ∧ (∀ e, e ∈ O → ∃ e', e' ∈ K' ∧ kyN e'.2 = kyN e.2 ∧ rwN e'.2 ≤ rwN e.2) := by
      intro hk
      have lk : (K ++ [O[i]]).length = K.length + 1 := by rw [List.length_append]; rfl
      obtain ⟨z'', K', b1, b2⟩ := ih (i + 1) g (K ++ [O[i]]) (si z' 81 K.length (nI O[i].1)) (by omega) (by omega) ⟨f.1, fun k q1 q2 => by rw [si_ok q2]; exact f.2.1 k q1 q2, fun j hj => by rw [si_ok (by decide)]; exact f.2.2 j hj⟩ (by rw [si_ok (by decide)]; exact e7) (by omega) (fun j e he => by
        by_cases q : j < K.length
        · rw [List.getElem?_append_left q] at he
          rw [si_oj (by omega)]; exact a1 j e he
        · have : j = K.length := by
            obtain ⟨w, _⟩ := List.getElem?_eq_some_iff.mp he
            omega
          subst this
          rw [List.getElem?_append_right (Nat.le_refl _), Nat.sub_self] at he
          have : O[i] = e := Option.some.inj he
          rw [si_ss, this]) (fun j e hj he => by rw [si_oj (by omega)]; exact a2 j e (by omega) he) (List.pairwise_append.mpr ⟨ks, List.pairwise_singleton .., fun a ha b hb => by rw [List.mem_singleton.mp hb]; exact hk a ha⟩) (fun e he => by
        rw [et]
        rcases List.mem_append.mp he with w | w
        · exact List.mem_append_left _ (k1 e w)
        · exact List.mem_append_right _ w) (fun e he => by
        rw [et] at he
        rcases List.mem_append.mp he with w | w
        · obtain ⟨e', q1, q2⟩ := k2 e w
          exact ⟨e', List.mem_append_left _ q1, q2⟩
        · exact ⟨e, List.mem_append_right _ w, rfl, Nat.le_refl _⟩)
      refine ⟨z'', K', ?_, b2⟩
      unfold fn_X9_leaveOutDoubles_B40
      rw [lz.2.2 73 6 81 rfl, lnk_s, lnk_s, ob, grd_true, lay_a lz 81 101 256 (by decide) rfl, okI_nI (by omega) (by omega), grd_true, nI_clamp (show i < 2 ^ 31 by omega), nI_clamp (show K.length < 2 ^ 31 by omega), ai, lt_t]
      unfold fn_X9_leaveOutDoubles_B55
      rw [nI_1, nI_1, ← lk]
      exact b1
    rw [fn_X9_leaveOutDoubles_L4, (b_tree lz).1, grd_true, e7, if_neg (fun e => by have := (nI_leW (a := O.length) (b := i) (by omega) (by omega)).mp e; omega)]
    by_cases c0 : K.length = 0
    · rw [if_pos (show nI K.length = 0 by rw [c0]; rfl)]
      exact add (fun e he => by rw [List.eq_nil_of_length_eq_zero c0] at he; exact absurd he (by simp))
    · rw [if_neg (show ¬ nI K.length = 0 from fun e => c0 (nI_uq (b := 0) e (by omega) (by omega)))]
      have hl : K.length - 1 < K.length := by omega
      have el : K[K.length - 1]? = some K[K.length - 1] := List.getElem?_eq_getElem hl
      have ml : K[K.length - 1] ∈ K := List.getElem_mem hl
      have rl := h.2.2.2.1 _ (List.mem_of_mem_take (k1 _ ml))
      have ri := h.2.2.2.1 _ mo
      obtain ⟨r, r1, r2⟩ := fdf_t (F := F) hF lz (a := (K[K.length - 1]).1) (b := (O[i]).1) (w := (K[K.length - 1]).2.1) (v := (O[i]).2.1) (by omega) (by omega) (fun k hk => by
        rw [f.1, rl.2.2.1 k (by omega)]
        unfold rw7
        rw [if_pos hk]) (fun k hk => by
        rw [f.1, ri.2.2.1 k (by omega)]
        unfold rw7
        rw [if_pos hk])
      rw [lz.2.2 73 6 81 rfl, lnk_s, lnk_s, show nI K.length - 1 = nI (K.length - 1) from pk_sub (a := K.length) (b := 1) (by omega), lay_a lz 81 101 256 (by decide) rfl, okI_nI (by omega) (by omega), grd_true, ob, grd_true, nI_clamp (show K.length - 1 < 2 ^ 31 by omega), nI_clamp (show i < 2 ^ 31 by omega), a1 _ _ el, ai, r1, cal_s]
      have lle := sle _ (k1 _ ml)
      rcases r2 with ⟨q1, q2⟩ | ⟨q1, q2⟩
      · have ke : kyN (K[K.length - 1]).2 = kyN (O[i]).2 := q2
        rw [q1, if_pos (by decide)]
        obtain ⟨z'', K', b1, b2⟩ := ih (i + 1) g K z' (by omega) (by omega) f e7 (by omega) a1 (fun j e hj he => a2 j e (by omega) he) ks (fun e he => by rw [et]; exact List.mem_append_left _ (k1 e he)) (fun e he => by
          rw [et] at he
          rcases List.mem_append.mp he with w | w
          · exact k2 e w
          · rw [List.mem_singleton.mp w]
            exact ⟨_, ml, ke, lle⟩)
        refine ⟨z'', K', ?_, b2⟩
        unfold fn_X9_leaveOutDoubles_B55
        rw [nI_1]
        exact b1
      · rw [if_neg (show ¬ (256 : Int32) ≤ nI r from fun e => by have := (nI_leW (a := 256) (b := r) (by omega) (by omega)).mp e; omega)]
        refine add (fun e he => ?_)
        have kle := rw_k lle
        have kne : kyN (K[K.length - 1]).2 ≠ kyN (O[i]).2 := fun e => q2.2.2.2 (by show cut (kyN _) _ = cut (kyN _) _; rw [e])
        obtain ⟨j, hj, ej⟩ := List.getElem_of_mem he
        by_cases w : j = K.length - 1
        · subst w
          rw [← ej]
          omega
        · have := List.pairwise_iff_getElem.mp ks j (K.length - 1) hj hl (by omega)
          rw [ej] at this
          omega
theorem lod_t (hF : 400 ≤ F) (hL : Lay sh n z) (h : CPl z P O) {Pl : List Plc} (hP : ∀ x, P x ↔ x ∈ Pl) : ∃ z' S o, fn_X9_leaveOutDoubles F sh n z 73 = some (z', ()) ∧ FCr z z' ∧ SrP Pl S ∧ CSt z' S o := by
  have l256 := h.2.1
  obtain ⟨z', K, a1, a2, a3, a4, a5, a6, a7, a8⟩ := lod_l (F := F) (by omega) hL h O.length 0 F [] z (by omega) (by omega) ⟨rfl, fun _ _ _ => rfl, fun _ _ => rfl⟩ h.1 (by simp) (fun j e he => absurd he (by simp)) (fun j e _ he => h.2.2.1 j e he) List.Pairwise.nil (fun e he => absurd he (by simp)) (fun e he => absurd he (by simp))
  have sk : SrK (K.map Prod.snd) := List.Pairwise.map _ (fun a b hab => hab) a6
  refine ⟨z', K.map Prod.snd, fun i => ((K[i]?).map Prod.fst).getD 0, a1, a2.fc, ⟨sk, fun x hx => ?_, fun y hy => ?_⟩, by rw [List.length_map]; exact a3, by rw [List.length_map]; exact a4, fun i x hx => ?_⟩
  · obtain ⟨e, he, ee⟩ := List.mem_map.mp hx
    subst ee
    refine ⟨(hP _).mp (h.2.2.2.1 e (a7 e he)).2.1, fun y hy hk => ?_⟩
    obtain ⟨c, hc⟩ := h.2.2.2.2.1 y ((hP y).mpr hy)
    obtain ⟨e', q1, q2, q3⟩ := a8 _ hc
    have q2' : kyN e'.2 = kyN y := q2
    have q3' : rwN e'.2 ≤ rwN y := q3
    have : e'.2 = e.2 := sk.inj (List.mem_map.mpr ⟨e', q1, rfl⟩) hx (by rw [q2', hk])
    rw [← this]
    exact (rw_i q2').mp q3'
  · obtain ⟨c, hc⟩ := h.2.2.2.2.1 y ((hP y).mpr hy)
    obtain ⟨e', q1, q2, _⟩ := a8 _ hc
    exact ⟨e'.2, List.mem_map.mpr ⟨e', q1, rfl⟩, q2⟩
  · rw [List.getElem?_map] at hx
    cases ek : K[i]? with
    | none => rw [ek] at hx; cases hx
    | some e =>
      rw [ek] at hx
      have ex : e.2 = x := Option.some.inj hx
      have me : e ∈ K := List.mem_of_getElem? ek
      have r := h.2.2.2.1 e (a7 e me)
      have r2 := r.2.2
      have eo' : (fun i => ((K[i]?).map Prod.fst).getD 0) i = e.1 := by
        show ((K[i]?).map Prod.fst).getD 0 = e.1
        rw [ek]; rfl
      rw [eo']
      refine ⟨a5 i e ek, by omega, fun k hk => ?_, fun k hk => ?_⟩
      · rw [a2.1, r2.1 k (by omega), ← ex]
        unfold rw7
        rw [if_pos hk]
      · rw [a2.1, r2.2 k hk, ex]
theorem keepV (hF : 100 ≤ F) (hL : Lay sh n z) (W : WCd sh n z z1 l) (hl : l.length < 2 ^ 30) : ∃ z2, fn_X9_keepValue F sh n z1 73 = some (z2, ()) ∧ FTr z z2 80 ∧ ∀ k, k < 4 → z2.2.1 80 k = hB l k := by
  obtain ⟨z2, a1, a2, a3⟩ := W.fin (F := F) (by omega) hl
  obtain ⟨z3, b1, b2, b3, _⟩ := cpy_t (F := F) (by omega) hL a2 a3 80 0 4 (by decide) rfl (by omega) (by omega) (by decide)
  have l1 := W.lay hL
  have l2 : Lay sh n z2 := hL.of a3.2.2
  refine ⟨z3, ?_, b2, fun k hk => by have := b3 k hk; rw [Nat.zero_add] at this; exact this⟩
  unfold fn_X9_keepValue
  rw [(b_tree l1).1, grd_true, (b_tree l1).2.2.1, lnk_s, (b_digt l1).1, grd_true, a1, cal_s, (b_tree l2).2.2.1, lnk_s, l2.2.2 73 5 80 rfl, lnk_s, (b_digt l2).1, grd_true, show (0 : Int32) = nI 0 from rfl, b1, cal_s]
def plA (a : Int64 × Int64 × Int64) : Plc := (hB (1 :: nB a.1 8), (1, a.1, 0), hB (nB a.2.1 8 ++ nB a.2.2 8))
variable {nc nr : Nat} {ac : Nat → Int64 × Int64 × Int64} {so : Nat → Option Rsc}
theorem gat_A (hF : 400 ≤ F) (hL : Lay sh n z) (cg : CLg z nc ac nr so) (h7 : z.1 73 7 = 0) : ∃ (z' : St) (O : Ord), fn_X9_gatherAccounts F sh n z 73 3 = some (z', ()) ∧ FCr z z' ∧ CPl z' (fun x => ∃ j, j < nc ∧ x = plA (ac j)) O ∧ O.length = nc := by
  have n256 := cg.1.2.1
  have key : ∀ m i g z1 (O : Ord), i + m = nc → m < g → FCr z z1 → CPl z1 (fun x => ∃ j, j < i ∧ x = plA (ac j)) O → O.length = i → ∃ (z' : St) (O' : Ord), fn_X9_gatherAccounts_L2 F sh n 3 73 g z1 (nI i) = some (z', ()) ∧ FCr z z' ∧ CPl z' (fun x => ∃ j, j < nc ∧ x = plA (ac j)) O' ∧ O'.length = nc := by
    intro m
    induction m with
    | zero =>
      intro i g z1 O h1 h2 f h e
      obtain ⟨g, rfl⟩ : ∃ q, g = q + 1 := ⟨g - 1, by omega⟩
      have l1 : Lay sh n z1 := hL.of f.1
      have ei : i = nc := by omega
      subst ei
      refine ⟨z1, O, ?_, f, h, e⟩
      rw [fn_X9_gatherAccounts_L2, (b_state l1).1, grd_true, (f.2.1 3 (by omega)).1, cg.1.1, if_pos ((nI_leW (by omega) (by omega)).mpr (Nat.le_refl _))]
    | succ m ih =>
      intro i g z1 O h1 h2 f h e
      obtain ⟨g, rfl⟩ : ∃ q, g = q + 1 := ⟨g - 1, by omega⟩
      have l1 : Lay sh n z1 := hL.of f.1
      have cg1 : CLg z1 nc ac nr so := cg.of (fun k a b => f.2.1 k (by omega))
      obtain ⟨p1, p2, p3⟩ := cg1.1.2.2 i (by omega)
      have S := b_state l1
      obtain ⟨y1, a1, w1⟩ := wc_start (F := F) l1
      obtain ⟨y2, a2, w2⟩ := w1.lng (F := F) (by omega) (ac i).2.1
      obtain ⟨y3, a3, w3⟩ := w2.lng (F := F) (by omega) (ac i).2.2
      obtain ⟨y4, a4, f4, v4⟩ := keepV (F := F) (by omega) l1 w3 (by simp [List.length_append, nB_len])
      have l4 : Lay sh n y4 := l1.of f4.1
      obtain ⟨y5, a5, w5⟩ := wc_start (F := F) l4
      obtain ⟨y6, a6, w6⟩ := w5.put (F := F) (by omega) (x := 1) (c := 1) rfl
      obtain ⟨y7, a7, w7⟩ := w6.lng (F := F) (by omega) (ac i).1
      obtain ⟨y8, O', a8, f8, h8, e8⟩ := addP (F := F) hF l4 (h.ft f4 (by decide) (by decide)) (by omega) w7 (by simp [List.length_append, nB_len]) v4 (kd := 1) (ms := 0) (ad := (ac i).1) (x0 := 1) (x2 := 0) (x3 := 0) rfl rfl
      have r1 := w1.lay l1
      have r2 := w2.lay l1
      have r3 := w3.lay l1
      have r5 := w5.lay l4
      have r6 := w6.lay l4
      have r7 := w7.lay l4
      have ft : FCr z1 y4 := f4.fc (by decide) (by decide)
      have rd : ∀ (y : St), FCr z1 y → ∀ k, 4 ≤ k → k ≤ 6 → y.2.1 k = z1.2.1 k := fun y fy k k1 k2 => (fy.2.1 k (by omega)).2
      have wf : ∀ (b y : St) (l : List Int32), WCd sh n b y l → ∀ k, 4 ≤ k → k ≤ 6 → y.2.1 k = b.2.1 k := fun b y l w k k1 k2 => w.2.2.1 k (by omega)
      obtain ⟨z', Of, c1, c2, c3, c4⟩ := ih (i + 1) g y8 O' (by omega) (by omega) (f.trans (ft.trans f8)) (h8.cg (fun x => ⟨fun q => by
        rcases q with ⟨j, q1, q2⟩ | q
        · exact ⟨j, by omega, q2⟩
        · exact ⟨i, by omega, q⟩, fun ⟨j, q1, q2⟩ => by
        by_cases w : j = i
        · subst w; exact .inr q2
        · exact .inl ⟨j, by omega, q2⟩⟩)) (by omega)
      refine ⟨z', Of, ?_, c2, c3, c4⟩
      have oi : okI (nI i) 256 = true := okI_nI (by omega) (by omega)
      have ci : (nI i).toNatClampNeg = i := nI_clamp (by omega)
      rw [fn_X9_gatherAccounts_L2, S.1, grd_true, cg1.1.1, if_neg (fun e => by have := (nI_leW (a := nc) (b := i) (by omega) (by omega)).mp e; omega), (b_tree l1).1, grd_true, (b_tree l1).2.2.1, lnk_s, (b_digt l1).1, grd_true, a1, cal_s, (b_tree r1).2.2.1, lnk_s, (b_state r1).2.2.1, lnk_s, lay_a l1 5 102 256 (by decide) rfl, oi, grd_true, (b_digt r1).1, grd_true, ci, wf _ _ _ w1 5 (by decide) (by decide), p2, a2, cal_s, (b_tree r2).2.2.1, lnk_s, (b_state r2).2.2.2.1, lnk_s, lay_a l1 6 102 256 (by decide) rfl, oi, grd_true, (b_digt r2).1, grd_true, wf _ _ _ w2 6 (by decide) (by decide), p3, a3, cal_s, a4, cal_s, (b_tree l4).2.2.1, lnk_s, (b_digt l4).1, grd_true, a5, cal_s, (b_tree r5).2.2.1, lnk_s, (b_digt r5).1, grd_true, a6, cal_s, (b_tree r6).2.2.1, lnk_s, (b_state r6).2.1, lnk_s, lay_a l1 4 102 256 (by decide) rfl, oi, grd_true, (b_digt r6).1, grd_true, wf _ _ _ w6 4 (by decide) (by decide), rd _ ft 4 (by decide) (by decide), p1, a7, cal_s, (b_state r7).2.1, lnk_s, lay_a l1 4 102 256 (by decide) rfl, oi, grd_true, wf _ _ _ w7 4 (by decide) (by decide), rd _ ft 4 (by decide) (by decide), p1, a8, cal_s, nI_1]
      exact c1
  exact key nc 0 F z [] (by omega) (by omega) FCr.rfl' ⟨h7, by simp, fun i e he => absurd he (by simp), fun e he => absurd he (by simp), fun x ⟨j, q, _⟩ => absurd q (by omega), List.Pairwise.nil⟩ rfl
end
