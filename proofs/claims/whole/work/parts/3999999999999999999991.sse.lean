/-! THE CLASS'S PROGRAM: what both lookers' rows want -/
section
variable {F n : Nat} {sh : Nat → Nat × Nat} {z z' : St} {kp kb len : Nat} {b : Nat → Nat} {M : MP} {J : Bool} {r : Ex Nat}
theorem CPo.takes (hb : ∀ q, q < len → b q < 256) (h : CPo sh n z kp b len M) {g : Nat} (hg : g < M.2.2.2.2.length + M.2.2.1.length) : fn_X5_takes F sh n z kp (nI g) = some (z, nI (tksOf (mdOf b M) g).length) ∧ fn_X5_gives F sh n z kp (nI g) = some (z, nI (gvsOf (mdOf b M) g).length) ∧ fn_X5_flags F sh n z kp (nI g) = some (z, nI (fnOf (mdOf b M) g).1) := by
  obtain ⟨p0, _⟩ := b_prog h.1 h.2.1
  obtain ⟨r0, r1, r2, r3, r4, r7, r8, r9⟩ := h.row hb hg
  unfold fn_X5_takes fn_X5_gives fn_X5_flags
  rw [p0, grd_true, grd_true, grd_true, h.fCol (c := 2) (ic := 2) rfl hg (by omega), h.fCol (c := 3) (ic := 3) rfl hg (by omega), h.fCol (c := 0) (ic := 0) rfl hg (by omega), cal_s, cal_s, cal_s, r2, r3, r0]
  exact ⟨rfl, rfl, rfl⟩
theorem lens (h : CPo sh n z kp b len M) {g : Nat} (hg : g < M.2.2.2.2.length + M.2.2.1.length) : (tksOf (mdOf b M) g).length ≤ 8 ∧ (gvsOf (mdOf b M) g).length ≤ 8 ∧ (locL (mdOf b M) g).length ≤ 32 := by
  have pk := h.2.2.2
  unfold tksOf gvsOf locL
  by_cases c : g < M.2.2.2.2.length
  · have e : fnOf (mdOf b M) g = (b (M.2.2.2.2.getD g dGP).1, (M.2.2.2.2.getD g dGP).2.2.1, (M.2.2.2.2.getD g dGP).2.2.2.1, (M.2.2.2.2.getD g dGP).2.2.2.2.1) := by
      show (if g < M.2.2.2.2.length then _ else _) = _
      rw [if_pos c]
    rw [e]
    have gp := pk.2.2.2.2.2 _ (getD_m (d := dGP) c)
    exact ⟨gp.2.2.2.1.2, gp.2.2.2.2.1.2, gp.2.2.2.2.2.1.2.2.1⟩
  · have k : g - M.2.2.2.2.length < M.2.2.1.length := by omega
    have e : fnOf (mdOf b M) g = (b ((M.2.2.1.getD (g - M.2.2.2.2.length) dCP).1 + 3), (M.2.2.1.getD (g - M.2.2.2.2.length) dCP).2.1, (M.2.2.1.getD (g - M.2.2.2.2.length) dCP).2.2, []) := by
      show (if g < M.2.2.2.2.length then _ else _) = _
      rw [if_neg c]
    rw [e]
    have cp := pk.2.2.1.2 _ (getD_m (d := dCP) k)
    exact ⟨cp.2.2.1.2, cp.2.2.2.2, Nat.zero_le _⟩
theorem CPo.taken (hb : ∀ q, q < len → b q < 256) (h : CPo sh n z kp b len M) {g k : Nat} (hg : g < M.2.2.2.2.length + M.2.2.1.length) (hk : k < (tysF M g).length) : fn_X5_takenType F sh n z kp (nI g) (nI k) = some (z, tL ((tysF M g).getD k [])) := by
  obtain ⟨p0, _⟩ := b_prog h.1 h.2.1
  obtain ⟨r0, r1, r2, r3, r4, r7, r8, r9⟩ := h.row hb hg
  obtain ⟨t1, t2⟩ := tysF_at hg hk
  unfold fn_X5_takenType
  rw [p0, grd_true, h.fCol (c := 1) (ic := 1) rfl hg (by omega), cal_s, r1, nI_add, h.typeAt t1, cal_s, t2]
theorem CPo.given (hb : ∀ q, q < len → b q < 256) (h : CPo sh n z kp b len M) {g k : Nat} (hg : g < M.2.2.2.2.length + M.2.2.1.length) (hk : (tksOf (mdOf b M) g).length + k < (tysF M g).length) : fn_X5_givenType F sh n z kp (nI g) (nI k) = some (z, tL ((tysF M g).getD ((tksOf (mdOf b M) g).length + k) [])) := by
  obtain ⟨p0, _⟩ := b_prog h.1 h.2.1
  obtain ⟨r0, r1, r2, r3, r4, r7, r8, r9⟩ := h.row hb hg
  obtain ⟨t1, t2⟩ := tysF_at hg hk
  unfold fn_X5_givenType
  rw [p0, grd_true, h.fCol (c := 1) (ic := 1) rfl hg (by omega), cal_s, r1, (h.takes hb hg).1, cal_s, nI_add, nI_add, Nat.add_assoc, h.typeAt t1, cal_s, t2]
theorem CPo.ab (h : CPo sh n z kp b len M) {s : Nat} (hs : s < M.1.length + M.2.1.length) : fn_X5_structureColumn F sh n z kp (nI s) 0 = some (z, nI ((mdOf b M).2.1 s)) := by
  rw [h.sCol (c := 0) (ic := 0) rfl hs (by omega)]
  have pk := h.2.2.2
  show some (z, _) = some (z, nI (if s < M.1.length then b (M.1.getD s dSP).1 else b (M.2.1.getD (s - M.1.length) 0 + 3)))
  by_cases c : s < M.1.length
  · have := (h.2.2.1.2.1 s c).1
    rw [Nat.zero_add] at this
    have st := pk.1.2 _ (getD_m (d := dSP) c)
    rw [if_pos c, this, st.2.1]
  · have := (h.2.2.1.2.2.1 (s - M.1.length) (by omega)).1
    rw [show M.1.length + (s - M.1.length) = s by omega] at this
    rw [if_neg c, this]
theorem CPo.elT (h : CPo sh n z kp b len M) (e : Int32) : ∃ r, fn_X5_elementType F sh n z kp e = some (z, r) := by
  obtain ⟨p0, p1, p2, p3, p4, p5, p6, p7, p8⟩ := b_prog h.1 h.2.1
  have l8 := h.2.2.1.2.2.2.2.2.2.2.1
  unfold fn_X5_elementType fn_X5_typeAt
  rw [p0, grd_true]
  generalize z.1 kp 13 + e = x
  by_cases c : x < 0
  · rw [if_pos c, cal_s]; exact ⟨_, rfl⟩
  · rw [if_neg c, grd_true, h.2.2.1.2.2.2.2.2.1.1]
    by_cases d : x < nI (allT M).length
    · rw [if_pos d, p1, lnk_s, p5]
      have ok : okI x 2048 = true := by
        have dx : x.toInt < (nI (allT M).length).toInt := Int32.lt_iff_toInt_lt.mp d
        have cx : ¬ x.toInt < (0 : Int32).toInt := fun q => c (Int32.lt_iff_toInt_lt.mpr q)
        have e0 : (0 : Int32).toInt = 0 := rfl
        have en : (nI (allT M).length).toInt = ((allT M).length : Int) := nI_toInt (by omega)
        rw [en] at dx
        rw [e0] at cx
        have ex : x = nI x.toInt.toNat := by
          apply Int32.toInt_inj.mp
          rw [nI_toInt (by omega)]; omega
        rw [ex]
        exact okI_nI (by omega) (by omega)
      rw [ok, grd_true, cal_s]; exact ⟨_, rfl⟩
    · rw [if_neg d, cal_s]; exact ⟨_, rfl⟩
theorem CPo.el (h : CPo sh n z kp b len M) {e : Nat} (he : e < M.2.2.2.1.length) : fn_X5_elementType F sh n z kp (nI e) = some (z, tL ((elsOf (mdOf b M)).getD e [])) := by
  obtain ⟨p0, _⟩ := b_prog h.1 h.2.1
  have e13 := h.2.2.1.1.2.2.2.2.2.1
  have al : allT M = (flS M.1 ++ flC M.2.2.1) ++ (M.2.2.2.1.map (fun e => e.2) ++ flG M.2.2.2.2) := by unfold allT; simp only [List.append_assoc]
  have lt : (flS M.1 ++ flC M.2.2.1).length + e < (allT M).length := by simp only [al, List.length_append, List.length_map]; omega
  unfold fn_X5_elementType
  rw [p0, grd_true, e13, nI_add, h.typeAt lt, cal_s, al, ap_r, ap_l (by rw [List.length_map]; exact he)]
  rfl
theorem CPo.cnL (hb : ∀ q, q < len → b q < 256) (h : CPo sh n z kp b len M) : CnL F sh n z kp (mdOf b M) := by
  obtain ⟨p0, _⟩ := b_prog h.1 h.2.1
  refine ⟨p0, fun g hg => ?_, fun a ha => ⟨h.fields ha, fun i hi => h.field ha hi⟩, fun s hs => h.ab hs, fun e he => h.el (by have he' : e < (M.2.2.2.1.map (fun e => e.2)).length := he; rw [List.length_map] at he'; exact he')⟩
  have hg' : g < M.2.2.2.2.length + M.2.2.1.length := hg
  obtain ⟨r0, r1, r2, r3, r4, r7, r8, r9⟩ := h.row hb hg'
  refine ⟨h.takes hb hg', fun k hk => ?_, fun k hk => ?_⟩
  · rw [h.taken hb hg' (by rw [r9, List.length_append]; omega), r9, ap_l hk]
  · rw [h.given hb hg' (by rw [r9, List.length_append, List.length_append]; omega), r9, ap_r, ap_l hk]
theorem CPo.cnB (hb : ∀ q, q < len → b q < 256) (h : CPo sh n z kp b len M) {f : Nat} (hf : f < M.2.2.2.2.length) : CnB F sh n z kp (mdOf b M) f := by
  obtain ⟨p0, _⟩ := b_prog h.1 h.2.1
  have hg : f < M.2.2.2.2.length + M.2.2.1.length := by omega
  obtain ⟨r0, r1, r2, r3, r4, r7, r8, r9⟩ := h.row hb hg
  obtain ⟨k1, k2, k3⟩ := h.takes (F := F) hb hg
  obtain ⟨l1, l2, l3⟩ := lens h hg
  have lo : locOf (mdOf b M) f = tksOf (mdOf b M) f ++ locL (mdOf b M) f := rfl
  refine ⟨?_, fun k hk => ?_⟩
  · unfold fn_X5_localCount
    rw [p0, grd_true, k1, cal_s, h.fCol (c := 4) (ic := 4) rfl hg (by omega), cal_s, r4, nI_add, lo, List.length_append]
  · rw [lo, List.length_append] at hk
    unfold fn_X5_localType
    rw [p0, grd_true, h.fCol (c := 1) (ic := 1) rfl hg (by omega), cal_s, r1, k1, cal_s, lo]
    by_cases c : k < (tksOf (mdOf b M) f).length
    · obtain ⟨t1, t2⟩ := tysF_at hg (i := k) (by rw [r9, List.length_append]; omega)
      rw [if_neg (fun y => by have := (nI_leI (by omega) (by omega)).mp y; omega), nI_add, h.typeAt t1, cal_s, t2, r9, ap_l c, ap_l c]
    · have e : k = (tksOf (mdOf b M) f).length + (k - (tksOf (mdOf b M) f).length) := by omega
      have ki : (gvsOf (mdOf b M) f).length + k = (tksOf (mdOf b M) f).length + ((gvsOf (mdOf b M) f).length + (k - (tksOf (mdOf b M) f).length)) := by omega
      obtain ⟨t1, t2⟩ := tysF_at hg (i := (gvsOf (mdOf b M) f).length + k) (by rw [r9, List.length_append, List.length_append]; omega)
      rw [if_pos ((nI_leI (by omega) (by omega)).mpr (by omega)), k2, cal_s, nI_add, nI_add, h.typeAt t1, cal_s, t2, r9, ki, ap_r, ap_r]
      have : (tksOf (mdOf b M) f ++ locL (mdOf b M) f).getD k [] = (locL (mdOf b M) f).getD (k - (tksOf (mdOf b M) f).length) [] := by
        have q := ap_r (l := tksOf (mdOf b M) f) (m := locL (mdOf b M) f) (d := []) (k - (tksOf (mdOf b M) f).length)
        rw [← e] at q
        exact q
      rw [this]
end
