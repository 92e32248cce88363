/-! THE CLASS'S JOURNAL: settling, turn by turn -/
section
variable {F n : Nat} {sh : Nat → Nat × Nat} {z z' : St} {nc nr na : Nat} {ac : Nat → Int64 × Int64 × Int64} {so : Nat → Option Rsc} {ak : Nat → Ask} {cn : Nat → Nat} {ws : Nat → Int64 → Nat → Bool}
theorem CJ.ok (hL : Lay sh n z) (h : CJ z na ak cn ws) {p : Nat} (hp : p < na) : (∀ k w, 105 ≤ k → k ≤ 112 → shF k = (w, 24) → okA sh n k w (nI p) = true) ∧ (nI p).toNatClampNeg = p ∧ ¬ nI na ≤ nI p ∧ (nI (ak p).1 = 3 ↔ (ak p).1 = 3) ∧ (nI (ak p).1 = 1 ↔ (ak p).1 = 1) := by
  have n24 := h.2.1
  have kb := (h.2.2 p hp).1.b
  exact ⟨fun k w k1 k2 e => by rw [lay_a hL k w 24 (by omega) e]; exact okI_nI (by omega) (by omega), nI_clamp (by omega), fun q => by have := (nI_leI (by omega) (by omega)).mp q; omega, nI_ij (b := 3) (by omega) (by omega), nI_ij (b := 1) (by omega) (by omega)⟩
theorem cR0 (hL : Lay sh n z) (h : CJ z na ak cn ws) {p f : Nat} (hp : p < na) (hc : (ak p).1 ≠ 3 ∨ ws (ak p).1 (ak p).2.1 (ak p).2.2.1 = false ∨ (ak p).2.2.2.2.1 = true) : fn_X2_commit_L2 F sh n 104 (f + 1) z (nI p) = fn_X2_commit_L2 F sh n 104 f z (nI (p + 1)) := by
  obtain ⟨ok, cp, ng, i3, i1⟩ := h.ok hL hp
  obtain ⟨k1, r1, _, r4, r5, _⟩ := h.2.2 p hp
  have B : ∀ K : St → Int32 → Option (St × Unit), fn_X2_commit_B63 F sh n (nI p) K z = K z (nI (p + 1)) := fun K => by
    show K z (nI p + 1) = _
    rw [nI_1]
  conv => lhs; unfold fn_X2_commit_L2
  rw [(b_jour hL).1, grd_true, h.1.1, if_neg ng, hL.2.2 104 2 105 rfl, lnk_s, ok 105 101 (by omega) (by omega) rfl, grd_true, cp, r1]
  by_cases c3 : (ak p).1 = 3
  · rw [if_pos (i3.mpr c3), hL.2.2 104 6 109 rfl, lnk_s, ok 109 103 (by omega) (by omega) rfl, grd_true, r4, if_neg (show ¬ (ak p).1 = 2 by omega)]
    by_cases cw : ws (ak p).1 (ak p).2.1 (ak p).2.2.1 = false
    · rw [if_pos (bI0.mpr cw), B]
    · have ct : (ak p).2.2.2.2.1 = true := by
        rcases hc with q | q | q
        · exact absurd c3 q
        · exact absurd q cw
        · exact q
      rw [if_neg (fun q => cw (bI0.mp q)), hL.2.2 104 8 110 rfl, lnk_s, ok 110 103 (by omega) (by omega) rfl, grd_true, r5, if_neg (show ¬ (ak p).1 = 2 by omega), if_neg (fun q => by have := bI0.mp q; rw [ct] at this; exact absurd this (by simp)), B]
  · rw [if_neg (fun q => c3 (i3.mp q)), B]
theorem cR1 (hF : 300 ≤ F) (hL : Lay sh n z) (h : CJ z na ak cn ws) (g : CLg z nc ac nr so) {p f : Nat} (hp : p < na) (h3 : (ak p).1 = 3) (hw : ws (ak p).1 (ak p).2.1 (ak p).2.2.1 = true) (ht : (ak p).2.2.2.2.1 = false) : (fdS so (ak p).2.1 (ak p).2.2.1 = none → fn_X2_commit_L2 F sh n 104 (f + 1) z (nI p) = fn_X2_commit_L2 F sh n 104 f z (nI (p + 1))) ∧ ∀ r, fdS so (ak p).2.1 (ak p).2.2.1 = some r → 1 ≤ nr → ∃ z', fn_X2_commit_L2 F sh n 104 (f + 1) z (nI p) = fn_X2_commit_L2 F sh n 104 f z' (nI (p + 1)) ∧ CLg z' nc ac (nr - 1) (fun i => if i = r then none else so i) ∧ FrLc z z' := by
  obtain ⟨ok, cp, ng, i3, i1⟩ := h.ok hL hp
  obtain ⟨k1, r1, ⟨r2, r3, r3b⟩, r4, r5, _⟩ := h.2.2 p hp
  have hk : (ak p).2.2.1 < 2 ^ 24 := by rcases k1 with q | q | q <;> omega
  have eA : ckA (ak p).1 (ak p).2.1 = (ak p).2.1 := by unfold ckA; rw [if_neg (by omega)]
  have eM : ckM (ak p).1 (ak p).2.1 (ak p).2.2.1 = (ak p).2.2.1 / 256 := by unfold ckM; rw [if_neg (by omega), if_neg (by omega)]
  have eS : ckS (ak p).1 (ak p).2.2.1 = (ak p).2.2.1 % 256 := by unfold ckS; rw [if_pos h3]
  rw [eA] at r2
  rw [eM] at r3
  rw [eS] at r3b
  have B : ∀ z (K : St → Int32 → Option (St × Unit)), fn_X2_commit_B63 F sh n (nI p) K z = K z (nI (p + 1)) := fun z K => by
    show K z (nI p + 1) = _
    rw [nI_1]
  have go : fn_X2_commit_L2 F sh n 104 (f + 1) z (nI p) = cal (fn_X7_removeResource F sh n z 3 (ak p).2.1 (nI ((ak p).2.2.1 / 256)) (nI ((ak p).2.2.1 % 256))) (fun z_68 _ => fn_X2_commit_B63 F sh n (nI p) (fun z9 q1 => fn_X2_commit_L2 F sh n 104 f z9 q1) z_68) := by
    conv => lhs; unfold fn_X2_commit_L2
    rw [(b_jour hL).1, grd_true, h.1.1, if_neg ng, hL.2.2 104 2 105 rfl, lnk_s, ok 105 101 (by omega) (by omega) rfl, grd_true, cp, r1, if_pos (i3.mpr h3), hL.2.2 104 6 109 rfl, lnk_s, ok 109 103 (by omega) (by omega) rfl, grd_true, r4, if_neg (show ¬ (ak p).1 = 2 by omega), if_neg (fun q => by have := bI0.mp q; rw [hw] at this; exact absurd this (by simp)), hL.2.2 104 8 110 rfl, lnk_s, ok 110 103 (by omega) (by omega) rfl, grd_true, r5, if_neg (show ¬ (ak p).1 = 2 by omega), if_pos (bI0.mpr ht), hL.2.2 104 0 3 rfl, lnk_s, hL.2.2 104 3 106 rfl, lnk_s, ok 106 102 (by omega) (by omega) rfl, grd_true, hL.2.2 104 4 107 rfl, lnk_s, ok 107 101 (by omega) (by omega) rfl, grd_true, hL.2.2 104 5 108 rfl, lnk_s, ok 108 101 (by omega) (by omega) rfl, grd_true, (b_state hL).1, grd_true, r2, r3, r3b]
  refine ⟨fun q => ?_, fun r q h1 => ?_⟩
  · rw [go, cremove_n hF hL g hk q, cal_s, B]
  · obtain ⟨z', q1, q2, q3⟩ := cremove_t (F := F) hF hL g hk q h1
    exact ⟨z', by rw [go, q1, cal_s, B], q2, q3⟩
theorem cRE (hL : Lay sh n z) (h : CJ z na ak cn ws) {f : Nat} : fn_X2_commit_L2 F sh n 104 (f + 1) z (nI na) = fn_X2_commit_L71 F sh n 104 F z 0 := by
  have := h.2.1
  conv => lhs; unfold fn_X2_commit_L2
  rw [(b_jour hL).1, grd_true, h.1.1, if_pos ((nI_leI (by omega) (by omega)).mpr (Nat.le_refl _))]
theorem cWE (h : CJ z na ak cn ws) {f : Nat} : fn_X2_commit_L71 F sh n 104 (f + 1) z (nI na) = some (z, ()) := by
  have := h.2.1
  conv => lhs; unfold fn_X2_commit_L71
  rw [h.1.1, if_pos ((nI_leI (by omega) (by omega)).mpr (Nat.le_refl _))]
theorem c176 {p : Nat} (z : St) (K : St → Int32 → Option (St × Unit)) : fn_X2_commit_B176 F sh n (nI p) K z = K z (nI (p + 1)) := by
  show K z (nI p + 1) = _
  rw [nI_1]
theorem cW0 (hL : Lay sh n z) (h : CJ z na ak cn ws) {p f : Nat} (hp : p < na) (hc : (ak p).1 = 2 ∨ (ak p).2.2.2.2.1 = false) : fn_X2_commit_L71 F sh n 104 (f + 1) z (nI p) = fn_X2_commit_L71 F sh n 104 f z (nI (p + 1)) := by
  obtain ⟨ok, cp, ng, i3, i1⟩ := h.ok hL hp
  obtain ⟨k1, r1, _, r4, r5, _⟩ := h.2.2 p hp
  have th : (ak p).1 ≠ 2 → (ak p).2.2.2.2.1 = false := fun q => hc.resolve_left q
  have b152 : ∀ K : St → Int32 → Option (St × Unit), fn_X2_commit_B152 F sh n 104 (nI p) K z = K z (nI (p + 1)) := fun K => by
    unfold fn_X2_commit_B152
    rw [hL.2.2 104 2 105 rfl, lnk_s, ok 105 101 (by omega) (by omega) rfl, grd_true, cp, r1]
    by_cases c3 : (ak p).1 = 3
    · rw [if_pos (i3.mpr c3), hL.2.2 104 8 110 rfl, lnk_s, ok 110 103 (by omega) (by omega) rfl, grd_true, r5, if_neg (show ¬ (ak p).1 = 2 by omega), if_pos (bI0.mpr (th (by omega))), c176]
    · rw [if_neg (fun q => c3 (i3.mp q)), c176]
  conv => lhs; unfold fn_X2_commit_L71
  rw [h.1.1, if_neg ng, hL.2.2 104 2 105 rfl, lnk_s, ok 105 101 (by omega) (by omega) rfl, grd_true, cp, r1]
  by_cases c1 : (ak p).1 = 1
  · rw [if_pos (i1.mpr c1), hL.2.2 104 8 110 rfl, lnk_s, ok 110 103 (by omega) (by omega) rfl, grd_true, r5, if_neg (show ¬ (ak p).1 = 2 by omega), if_pos (bI0.mpr (th (by omega))), b152]
  · rw [if_neg (fun q => c1 (i1.mp q)), b152]
theorem cW1 (hF : 300 ≤ F) (hL : Lay sh n z) (h : CJ z na ak cn ws) (g : CLg z nc ac nr so) {p f : Nat} (hp : p < na) (h1 : (ak p).1 = 1) (ht : (ak p).2.2.2.2.1 = true) : (∀ x, fdA nc ac (ak p).2.1 = some x → ∃ z', fn_X2_commit_L71 F sh n 104 (f + 1) z (nI p) = fn_X2_commit_L71 F sh n 104 f z' (nI (p + 1)) ∧ CLg z' nc (fun j => if j = x then ((ac j).1, (ak p).2.2.2.1, (ac j).2.2) else ac j) nr so ∧ FrLc z z') ∧ (fdA nc ac (ak p).2.1 = none → nc < 256 → ∃ z', fn_X2_commit_L71 F sh n 104 (f + 1) z (nI p) = fn_X2_commit_L71 F sh n 104 f z' (nI (p + 1)) ∧ CLg z' (nc + 1) (fun j => if j = nc then ((ak p).2.1, (ak p).2.2.2.1, 0) else ac j) nr so ∧ FrLc z z') := by
  obtain ⟨ok, cp, ng, i3, i1⟩ := h.ok hL hp
  obtain ⟨k1, r1, ⟨r2, r3, r3b⟩, r4, r5, r6, _⟩ := h.2.2 p hp
  have eA : ckA (ak p).1 (ak p).2.1 = (ak p).2.1 := by unfold ckA; rw [if_neg (by omega)]
  rw [eA] at r2
  have r6' := (r6 h1).1
  have n256 := g.1.2.1
  have go : fn_X2_commit_L71 F sh n 104 (f + 1) z (nI p) = if (0 : Int32) ≤ oI (fdA nc ac (ak p).2.1) then fn_X2_commit_B133 F sh n 104 (nI p) (fun z9 q1 => fn_X2_commit_L71 F sh n 104 f z9 q1) z (oI (fdA nc ac (ak p).2.1)) else cal (fn_X7_openAccount F sh n z 3 (ak p).2.1) (fun z_47 r_48 => fn_X2_commit_B133 F sh n 104 (nI p) (fun z9 q1 => fn_X2_commit_L71 F sh n 104 f z9 q1) z_47 r_48) := by
    conv => lhs; unfold fn_X2_commit_L71
    rw [h.1.1, if_neg ng, hL.2.2 104 2 105 rfl, lnk_s, ok 105 101 (by omega) (by omega) rfl, grd_true, cp, r1, if_pos (i1.mpr h1), hL.2.2 104 8 110 rfl, lnk_s, ok 110 103 (by omega) (by omega) rfl, grd_true, r5, if_neg (show ¬ (ak p).1 = 2 by omega), if_neg (fun q => by have := bI0.mp q; rw [ht] at this; exact absurd this (by simp)), hL.2.2 104 0 3 rfl, lnk_s, hL.2.2 104 3 106 rfl, lnk_s, ok 106 102 (by omega) (by omega) rfl, grd_true, (b_state hL).1, grd_true, r2, cfindA_t hF hL g, cal_s, hL.2.2 104 0 3 rfl, lnk_s, hL.2.2 104 3 106 rfl, lnk_s, ok 106 102 (by omega) (by omega) rfl, grd_true, (b_state hL).1, grd_true, r2]
  have bal : ∀ z1 x, FrLc z z1 → x < 256 → fn_X2_commit_B133 F sh n 104 (nI p) (fun z9 q1 => fn_X2_commit_L71 F sh n 104 f z9 q1) z1 (nI x) = fn_X2_commit_L71 F sh n 104 f (sl z1 5 x (ak p).2.2.2.1) (nI (p + 1)) := fun z1 x fr hx => by
    have L1 : Lay sh n z1 := hL.of fr.1
    have e11 : z1.2.1 111 p = (ak p).2.2.2.1 := by rw [(fr.2.1 111 (by omega)).2]; exact r6'
    unfold fn_X2_commit_B133
    rw [L1.2.2 104 0 3 rfl, lnk_s, (b_state hL).1, grd_true, L1.2.2 3 1 5 rfl, lnk_s, L1.2.2 104 9 111 rfl, lnk_s, ok 111 102 (by omega) (by omega) rfl, grd_true, lay_a hL 5 102 256 (by decide) rfl, okI_nI (by omega) (by omega), grd_true, cp, nI_clamp (by omega), e11, lt_t, c176]
  refine ⟨fun x q => ?_, fun q hn => ?_⟩
  · have hx := fd_lt _ _ _ q
    obtain ⟨b1, b2⟩ := cbal_t g (i := x) (ak p).2.2.2.1
    exact ⟨sl z 5 x (ak p).2.2.2.1, by rw [go, q, if_pos (oI0 x (by omega)).1]; exact bal z x FrLc.rfl' (by omega), b1, b2⟩
  · obtain ⟨z1, q1, q2, q3⟩ := copen_t (F := F) hL g hn (a := (ak p).2.1)
    obtain ⟨b1, b2⟩ := cbal_t q2 (i := nc) (ak p).2.2.2.1
    refine ⟨sl z1 5 nc (ak p).2.2.2.1, by rw [go, q, if_neg (by decide), q1, cal_s]; exact bal z1 nc q3 hn, ?_, q3.trans b2⟩
    have e : (fun j => if j = nc then (((fun j => if j = nc then ((ak p).2.1, 0, 0) else ac j) j).1, (ak p).2.2.2.1, ((fun j => if j = nc then ((ak p).2.1, (0 : Int64), (0 : Int64)) else ac j) j).2.2) else (fun j => if j = nc then ((ak p).2.1, 0, 0) else ac j) j) = (fun j => if j = nc then ((ak p).2.1, (ak p).2.2.2.1, 0) else ac j) := by
      funext j
      by_cases c : j = nc
      · simp [c]
      · simp [c]
    rw [e] at b1
    exact b1
theorem cW3 (hF : 300 ≤ F) (hL : Lay sh n z) (h : CJ z na ak cn ws) (g : CLg z nc ac nr so) {H : Hp} {u : Nat} {s : Int32} (hH : HC z H u s) {p f : Nat} (hp : p < na) (h3 : (ak p).1 = 3) (ht : (ak p).2.2.2.2.1 = true) {En : List Ent} (rep : Rep H 39 (cn p) En) (hE : En.length ≤ 64) (hE0 : 0 < En.length) : (∀ r, fdS so (ak p).2.1 (ak p).2.2.1 = some r → ∃ z', fn_X2_commit_L71 F sh n 104 (f + 1) z (nI p) = fn_X2_commit_L71 F sh n 104 f z' (nI (p + 1)) ∧ CLg z' nc ac nr (fun i => if i = r then some ((ak p).2.1, (ak p).2.2.1, En) else so i) ∧ FrLc z z') ∧ ∀ r, fdS so (ak p).2.1 (ak p).2.2.1 = none → fdN so = some r → nr < 256 → ∃ z', fn_X2_commit_L71 F sh n 104 (f + 1) z (nI p) = fn_X2_commit_L71 F sh n 104 f z' (nI (p + 1)) ∧ CLg z' nc ac (nr + 1) (fun i => if i = r then some ((ak p).2.1, (ak p).2.2.1, En) else so i) ∧ FrLc z z' := by
  obtain ⟨ok, cp, ng, i3, i1⟩ := h.ok hL hp
  obtain ⟨k1, r1, ⟨r2, r3, r3b⟩, r4, r5, r6, r7⟩ := h.2.2 p hp
  have hk : (ak p).2.2.1 < 2 ^ 24 := by rcases k1 with q | q | q <;> omega
  have eA : ckA (ak p).1 (ak p).2.1 = (ak p).2.1 := by unfold ckA; rw [if_neg (by omega)]
  have eM : ckM (ak p).1 (ak p).2.1 (ak p).2.2.1 = (ak p).2.2.1 / 256 := by unfold ckM; rw [if_neg (by omega), if_neg (by omega)]
  have eS : ckS (ak p).1 (ak p).2.2.1 = (ak p).2.2.1 % 256 := by unfold ckS; rw [if_pos h3]
  rw [eA] at r2
  rw [eM] at r3
  rw [eS] at r3b
  have r7' := r7 h3 ht
  have key : ∀ z1 r, fn_X7_slotFor F sh n z 3 (ak p).2.1 (nI ((ak p).2.2.1 / 256)) (nI ((ak p).2.2.1 % 256)) = some (z1, nI r) → FrLc z z1 → r < 256 → ∀ nr1, CLg z1 nc ac nr1 so → (z1.2.1 8 r = (ak p).2.1 ∧ z1.1 9 r = nI ((ak p).2.2.1 / 256) ∧ z1.1 10 r = nI ((ak p).2.2.1 % 256)) → ∃ z', fn_X2_commit_L71 F sh n 104 (f + 1) z (nI p) = fn_X2_commit_L71 F sh n 104 f z' (nI (p + 1)) ∧ CLg z' nc ac nr1 (fun i => if i = r then some ((ak p).2.1, (ak p).2.2.1, En) else so i) ∧ FrLc z z' := fun z1 r hs fr hr nr1 g1 rr => by
    have L1 : Lay sh n z1 := hL.of fr.1
    obtain ⟨z2, q1, q2, q3⟩ := store_t (F := F) hF L1 (fr.hc hH) rep (by omega) hr hE
    have L2 : Lay sh n z2 := L1.of q3.1
    obtain ⟨w1, w2⟩ := ckeep_t L1 g1 hr hk rr.1 rr.2.1 rr.2.2 hE hE0 q2 q3 rfl
    refine ⟨_, ?_, w1, fr.trans w2⟩
    have e12 : z1.1 112 p = nI (cn p) := by rw [(fr.2.1 112 (by omega)).1]; exact r7'
    have r0 : ¬ nI r < 0 := (oI0 r (by omega)).2
    have st : fn_X2_storeResource F sh n z 104 (nI p) = some (si z2 11 r (nI En.length), ()) := by
      unfold fn_X2_storeResource
      rw [(b_jour hL).1, grd_true, hL.2.2 104 0 3 rfl, lnk_s, hL.2.2 104 3 106 rfl, lnk_s, ok 106 102 (by omega) (by omega) rfl, grd_true, hL.2.2 104 4 107 rfl, lnk_s, ok 107 101 (by omega) (by omega) rfl, grd_true, hL.2.2 104 5 108 rfl, lnk_s, ok 108 101 (by omega) (by omega) rfl, grd_true, (b_state hL).1, grd_true, cp, r2, r3, r3b, hs, cal_s, if_neg r0, L1.2.2 104 0 3 rfl, lnk_s, (b_state hL).1, grd_true, L1.2.2 3 9 11 rfl, lnk_s, L1.2.2 104 1 88 rfl, lnk_s, L1.2.2 104 10 112 rfl, lnk_s, ok 112 101 (by omega) (by omega) rfl, grd_true, lnk_s, (b_heap hL).1, grd_true, e12, q1, cal_s, lay_a hL 11 101 256 (by decide) rfl, okI_nI (by omega) (by omega), grd_true, nI_clamp (by omega), lt_t]
    conv => lhs; unfold fn_X2_commit_L71
    rw [h.1.1, if_neg ng, hL.2.2 104 2 105 rfl, lnk_s, ok 105 101 (by omega) (by omega) rfl, grd_true, cp, r1, if_neg (fun q => by have := i1.mp q; omega)]
    unfold fn_X2_commit_B152
    rw [hL.2.2 104 2 105 rfl, lnk_s, ok 105 101 (by omega) (by omega) rfl, grd_true, cp, r1, if_pos (i3.mpr h3), hL.2.2 104 8 110 rfl, lnk_s, ok 110 103 (by omega) (by omega) rfl, grd_true, r5, if_neg (show ¬ (ak p).1 = 2 by omega), if_neg (fun q => by have := bI0.mp q; rw [ht] at this; exact absurd this (by simp)), st, cal_s, c176]
  refine ⟨fun r q => ?_, fun r q qn hn => ?_⟩
  · obtain ⟨hr, x, x1, x2, x3⟩ := fdS_k q
    obtain ⟨c1, c2, c3, _⟩ := (g.2.2.2 r hr).2 x x1
    exact key z r (cslot_s hF hL g hk q) FrLc.rfl' hr nr g ⟨by rw [c1, x2], by rw [c2, x3], by rw [c3, x3]⟩
  · obtain ⟨z1, q1, q2, q3, q4⟩ := cslot_n (F := F) hF hL g hk q qn hn
    have hr := fd_lt _ _ _ qn
    exact key z1 r q1 q4 (by omega) (nr + 1) q2 q3
end
