/-! MISFITS, THE CLASS: the first foreign function that is not there -/
section
variable {F n : Nat} {sh : Nat → Nat × Nat} {z z' : St} {kp kb len kp' kb' len' : Nat} {b b' : Nat → Nat} {M M' : MP} {ws : Nat → Md} {wc : Nat} {dp : Nat → Nat → Nat}
theorem tgl_ty (hb : ∀ q, q < len → b q < 256) (h : CPo sh n z kp b len M) {a k : Nat} (ha : a < M.2.2.2.2.length + M.2.2.1.length) (hk : k < (tgl (mdOf b M) a).length) : k < (tysF M a).length ∧ (tysF M a).getD k [] = (tgl (mdOf b M) a).getD k [] := by
  obtain ⟨_, _, _, _, _, _, _, r9⟩ := h.row hb ha
  have e : tysF M a = tgl (mdOf b M) a ++ locL (mdOf b M) a := by rw [r9]; unfold tgl; rw [List.append_assoc]
  rw [e]
  exact ⟨by rw [List.length_append]; omega, ap_l hk⟩
theorem CPr.sameLists (hF : 100 ≤ F) (h : CPr sh n z kp kb b len M) (h6 : 6 ≤ len) (hj : jM b M = none) (h' : CPr sh n z kp' kb' b' len' M') (h6' : 6 ≤ len') (hj' : jM b' M' = none) {a f : Nat} (ha : a < M.2.2.2.2.length + M.2.2.1.length) (hf : f < M'.2.2.2.2.length + M'.2.2.1.length) : fn_X5_sameLists F sh n z kp (nI a) kp' (nI f) = some (z, bI (sameLs (mdOf b M) a (mdOf b' M') f)) := by
  obtain ⟨t1, t2, _⟩ := h.1.takes (F := F) h.hb ha
  obtain ⟨t1', t2', _⟩ := h'.1.takes (F := F) h'.hb hf
  obtain ⟨l1, l2, _⟩ := lens h.1 ha
  obtain ⟨l1', l2', _⟩ := lens h'.1 hf
  have p5 := (b_prog h.1.1 h.1.2.1).1
  have p5' := (b_prog h'.1.1 h'.1.2.1).1
  unfold fn_X5_sameLists sameLs
  rw [p5, grd_true, t1, cal_s, p5', grd_true, t1', cal_s]
  by_cases c1 : (tksOf (mdOf b M) a).length = (tksOf (mdOf b' M') f).length
  · rw [if_pos (by rw [c1]), decide_eq_true c1, Bool.true_and, t2, cal_s, t2', cal_s]
    by_cases c2 : (gvsOf (mdOf b M) a).length = (gvsOf (mdOf b' M') f).length
    · rw [if_pos (by rw [c2]), decide_eq_true c2, Bool.true_and]
      have tl : (tgl (mdOf b M) a).length = (tksOf (mdOf b M) a).length + (gvsOf (mdOf b M) a).length := by unfold tgl; rw [List.length_append]
      have tl' : (tgl (mdOf b' M') f).length = (tksOf (mdOf b' M') f).length + (gvsOf (mdOf b' M') f).length := by unfold tgl; rw [List.length_append]
      have lp : ∀ r k g, k + r = (tgl (mdOf b M) a).length → r < g → fn_X5_sameLists_L31 F sh n kp (nI a) kp' (nI f) g z (nI k) = some (z, bI (fbad (fun k => tySb (mdOf b M) (mdOf b' M') ((tgl (mdOf b M) a).getD k []) ((tgl (mdOf b' M') f).getD k [])) r k).isNone) := by
        intro r
        induction r with
        | zero =>
          intro k g ek hg
          obtain ⟨g, rfl⟩ : ∃ q, g = q + 1 := ⟨g - 1, by omega⟩
          unfold fn_X5_sameLists_L31
          rw [t1, cal_s, t2, cal_s, nI_add, if_pos ((nI_leI (by omega) (by omega)).mpr (by omega))]
          rfl
        | succ r ih =>
          intro k g ek hg
          obtain ⟨g, rfl⟩ : ∃ q, g = q + 1 := ⟨g - 1, by omega⟩
          obtain ⟨y1, y2⟩ := tgl_ty h.hb h.1 ha (k := k) (by omega)
          obtain ⟨y1', y2'⟩ := tgl_ty h'.hb h'.1 hf (k := k) (by omega)
          have st := CPr.sameType (F := F) h h6 h' h6' (tgl_ls h.hb h.1.2.2.2 hj ha (k := k) (by omega)) (tgl_ls h'.hb h'.1.2.2.2 hj' hf (k := k) (by omega))
          unfold fn_X5_sameLists_L31 fbad
          rw [t1, cal_s, t2, cal_s, nI_add, if_neg (fun y => by have := (nI_leI (by omega) (by omega)).mp y; omega), h.1.taken h.hb ha y1, cal_s, h'.1.taken h'.hb hf y1', cal_s, y2, y2', st, cal_s]
          cases e : tySb (mdOf b M) (mdOf b' M') ((tgl (mdOf b M) a).getD k []) ((tgl (mdOf b' M') f).getD k []) with
          | false => rw [if_pos (show bI false = 0 from rfl), if_neg (by simp)]; rfl
          | true =>
            rw [if_neg (show ¬ bI true = 0 by decide), if_pos rfl, nI_1]
            exact ih (k + 1) g (by omega) (by omega)
      exact lp (tgl (mdOf b M) a).length 0 F (by omega) (by omega)
    · rw [if_neg (fun y => c2 ((nI_eq (by omega) (by omega)).mp y)), decide_eq_false c2, Bool.false_and]; rfl
  · rw [if_neg (fun y => c1 ((nI_eq (by omega) (by omega)).mp y)), decide_eq_false c1, Bool.false_and]; rfl
theorem bit1 : ∀ x, x < 8 → ((nI x &&& 1 : Int32) = 0 ↔ ¬ x % 2 = 1) := by decide
theorem bit4 : ∀ x, x < 8 → ∀ y, y < 8 → (((nI x ^^^ nI y) &&& 4 : Int32) = 0 ↔ x / 4 % 2 = y / 4 % 2) := by decide
theorem whoL (pk : PicOk b len M) (hb : ∀ q, q < len → b q < 256) {k : Nat} (hk : k < M.2.2.1.length) : whoOf (mdOf b M) (M.2.2.2.2.length + k) / 256 < 65536 := by
  show (256 * shB b (M.2.2.1.getD (M.2.2.2.2.length + k - M.2.2.2.2.length) dCP).1 + b ((M.2.2.1.getD (M.2.2.2.2.length + k - M.2.2.2.2.length) dCP).1 + 2)) / 256 < 65536
  rw [Nat.add_sub_cancel_left]
  have cp := (pk.2.2.1.2 _ (getD_m (d := dCP) hk)).1
  have := shB_lt (b := b) (hb (M.2.2.1.getD k dCP).1 (by omega)) (hb ((M.2.2.1.getD k dCP).1 + 1) (by omega))
  have b8 := hb ((M.2.2.1.getD k dCP).1 + 2) (by omega)
  omega
theorem CPr.strangeF (hF : 100 ≤ F) (hW : CWo sh n z ws wc dp) (h6w : ∀ i, i ≤ wc → (ws i).1.1 < 65536) (h : CPr sh n z kp kb b len M) (h6 : 6 ≤ len) (hj : jM b M = none) : fn_X5_strangeFunction F sh n z kp 3 = some (z, nsR 0 (fbad (fun k => fnOk ws wc (mdOf b M) (M.2.2.2.2.length + k)) M.2.2.1.length 0)) := by
  have pk := h.1.2.2.2
  have l1 := pk.2.2.1.1
  have l2 := pk.2.2.2.2.1
  have s7 := (b_state hW.1).1
  have p5 := (b_prog h.1.1 h.1.2.1).1
  have e11 := h.1.2.2.1.1.2.2.2.1
  have e12 := h.1.2.2.1.1.2.2.2.2.1
  have md := mdO_of h.hb pk hj
  have lp : ∀ r k g, k + r = M.2.2.1.length → r < g → fn_X5_strangeFunction_L2 F sh n kp 3 g z (nI k) = some (z, nsR 0 (fbad (fun k => fnOk ws wc (mdOf b M) (M.2.2.2.2.length + k)) r k)) := by
    intro r
    induction r with
    | zero =>
      intro k g ek hg
      obtain ⟨g, rfl⟩ : ∃ q, g = q + 1 := ⟨g - 1, by omega⟩
      unfold fn_X5_strangeFunction_L2
      rw [p5, grd_true, e12, if_pos ((nI_leI (by omega) (by omega)).mpr (by omega))]
      rfl
    | succ r ih =>
      intro k g ek hg
      obtain ⟨g, rfl⟩ : ∃ q, g = q + 1 := ⟨g - 1, by omega⟩
      have ha : M.2.2.2.2.length + k < M.2.2.2.2.length + M.2.2.1.length := by omega
      obtain ⟨_, _, _, _, _, r7, r8, _⟩ := h.1.row h.hb ha
      have nf : ¬ M.2.2.2.2.length + k < fsOf (mdOf b M) := by show ¬ M.2.2.2.2.length + k < M.2.2.2.2.length; omega
      rw [if_neg nf] at r7 r8
      have c7 := h.1.fCol (F := F) (c := 7) (ic := 7) rfl ha (by omega)
      have c8 := h.1.fCol (F := F) (c := 8) (ic := 8) rfl ha (by omega)
      rw [r7] at c7
      rw [r8] at c8
      have wl := whoL pk h.hb (k := k) (by omega)
      have fd := hW.find (F := F) (by omega) h6w wl
      unfold fn_X5_strangeFunction_L2 fbad
      rw [p5, grd_true, e12, if_neg (fun y => by have := (nI_leI (by omega) (by omega)).mp y; omega), e11, nI_add, lt_t, c7, cal_s, s7, grd_true, fd, cal_s, c8, cal_s]
      have so : fnOk ws wc (mdOf b M) (M.2.2.2.2.length + k) = match wfi ws (whoOf (mdOf b M) (M.2.2.2.2.length + k) / 256) (wc + 1) 0 with
        | none => false
        | some i => decide (whoOf (mdOf b M) (M.2.2.2.2.length + k) % 256 < fsOf (ws i)) && (decide ((fnOf (ws i) (whoOf (mdOf b M) (M.2.2.2.2.length + k) % 256)).1 % 2 = 1) && (decide ((fnOf (ws i) (whoOf (mdOf b M) (M.2.2.2.2.length + k) % 256)).1 / 4 % 2 = (fnOf (mdOf b M) (M.2.2.2.2.length + k)).1 / 4 % 2) && sameLs (mdOf b M) (M.2.2.2.2.length + k) (ws i) (whoOf (mdOf b M) (M.2.2.2.2.length + k) % 256))) := rfl
      have bad : fnOk ws wc (mdOf b M) (M.2.2.2.2.length + k) = false → (some (z, nI k) : Option (St × Int32)) = some (z, nsR 0 (if fnOk ws wc (mdOf b M) (M.2.2.2.2.length + k) = true then fbad (fun k => fnOk ws wc (mdOf b M) (M.2.2.2.2.length + k)) r (k + 1) else some k)) := fun q => by
        rw [q, if_neg (by simp)]; rfl
      cases e : wfi ws (whoOf (mdOf b M) (M.2.2.2.2.length + k) / 256) (wc + 1) 0 with
      | none =>
        rw [e] at so
        show nul none _ _ = _
        rw [nul_n]
        exact bad so
      | some i =>
        rw [e] at so
        obtain ⟨w1, w2, w3⟩ := wfi_s e
        obtain ⟨⟨kb', b', len', M', c1, c2, _, c4, c5⟩, _⟩ := hW.2.2.2 i (by omega)
        have pk' := c1.1.2.2.2
        have l2' := pk'.2.2.2.2.1
        have md' := mdO_of c1.hb pk' c4
        show nul (some (15 + 5 * i)) _ _ = _
        rw [nul_s, cal_s, (b_prog c1.1.1 c1.1.2.1).1, grd_true, c1.1.2.2.1.1.2.2.2.1]
        have so2 : fnOk ws wc (mdOf b M) (M.2.2.2.2.length + k) = (decide (whoOf (mdOf b M) (M.2.2.2.2.length + k) % 256 < fsOf (ws i)) && (decide ((fnOf (ws i) (whoOf (mdOf b M) (M.2.2.2.2.length + k) % 256)).1 % 2 = 1) && (decide ((fnOf (ws i) (whoOf (mdOf b M) (M.2.2.2.2.length + k) % 256)).1 / 4 % 2 = (fnOf (mdOf b M) (M.2.2.2.2.length + k)).1 / 4 % 2) && sameLs (mdOf b M) (M.2.2.2.2.length + k) (ws i) (whoOf (mdOf b M) (M.2.2.2.2.length + k) % 256)))) := so
        rw [c2] at so2
        generalize hw : whoOf (mdOf b M) (M.2.2.2.2.length + k) % 256 = f at *
        have f8 : f < 256 := by rw [← hw]; omega
        by_cases d : f < M'.2.2.2.2.length
        · have hf : f < M'.2.2.2.2.length + M'.2.2.1.length := by omega
          have fl' := (md'.2.2.2.2 f hf).1
          have fl := (md.2.2.2.2 (M.2.2.2.2.length + k) ha).1
          have sl := CPr.sameLists (F := F) hF h h6 hj c1 c5 c4 ha hf
          rw [decide_eq_true (show f < fsOf (mdOf b' M') from d), Bool.true_and] at so2
          rw [if_neg (fun y => by have := (nI_leI (by omega) (by omega)).mp y; omega), (c1.1.takes c1.hb hf).2.2, cal_s]
          by_cases d1 : (fnOf (mdOf b' M') f).1 % 2 = 1
          · rw [if_neg (fun y => ((bit1 _ fl').mp y) d1), (c1.1.takes c1.hb hf).2.2, cal_s, (h.1.takes h.hb ha).2.2, cal_s]
            rw [decide_eq_true d1, Bool.true_and] at so2
            by_cases d4 : (fnOf (mdOf b' M') f).1 / 4 % 2 = (fnOf (mdOf b M) (M.2.2.2.2.length + k)).1 / 4 % 2
            · rw [if_pos ((bit4 _ fl' _ fl).mpr d4), sl, cal_s]
              rw [decide_eq_true d4, Bool.true_and] at so2
              cases es : sameLs (mdOf b M) (M.2.2.2.2.length + k) (mdOf b' M') f with
              | false =>
                rw [es] at so2
                rw [if_pos (show bI false = 0 from rfl)]
                exact bad so2
              | true =>
                rw [es] at so2
                rw [if_neg (show ¬ bI true = 0 by decide), so2, if_pos rfl, nI_1]
                exact ih (k + 1) g (by omega) (by omega)
            · rw [if_neg (fun y => d4 ((bit4 _ fl' _ fl).mp y))]
              rw [decide_eq_false d4, Bool.false_and] at so2
              exact bad so2
          · rw [if_pos ((bit1 _ fl').mpr d1)]
            rw [decide_eq_false d1, Bool.false_and] at so2
            exact bad so2
        · rw [if_pos ((nI_leI (by omega) (by omega)).mpr (by omega))]
          rw [decide_eq_false (show ¬ f < fsOf (mdOf b' M') from d), Bool.false_and] at so2
          exact bad so2
  exact lp M.2.2.1.length 0 F (by omega) (by omega)
end
