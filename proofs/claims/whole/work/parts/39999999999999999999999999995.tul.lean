/-! DIGESTS OF LISTS OF BYTES, the class's side -/
def hB (l : List Int32) (k : Nat) : Int64 := (ux (HS (pb (gl l) l.length) ((l.length + 9 + pz l.length) / 64) (2 * k)) <<< ((32 : Int32).toInt64 &&& 63)) ||| ux (HS (pb (gl l) l.length) ((l.length + 9 + pz l.length) / 64) (2 * k + 1))
def qBf (d : D4) : Nat → Nat → List Int32
  | 0, _ => []
  | m + 1, k => nB (d k) 8 ++ qBf d m (k + 1)
def qB (d : D4) : List Int32 := qBf d 4 0
theorem qBf_len (d : D4) : ∀ m k, (qBf d m k).length = 8 * m
  | 0, _ => rfl
  | m + 1, k => by
    show (nB (d k) 8 ++ qBf d m (k + 1)).length = _
    rw [List.length_append, nB_len, qBf_len d m (k + 1)]
    omega
theorem qB_len (d : D4) : (qB d).length = 32 := qBf_len d 4 0
def ndH (l r : D4) : D4 := hB (1 :: (qB l ++ qB r))
def lfP (x : Plc) : D4 := hB (0 :: (qB x.1 ++ qB x.2.2))
def WCd (sh : Nat → Nat × Nat) (n : Nat) (z z' : St) (l : List Int32) : Prop := DP sh n z' 75 76 77 (gl l) l.length ∧ frD z z' 75 76 77
section
variable {F n : Nat} {sh : Nat → Nat × Nat} {z z1 z2 : St} {l : List Int32}
theorem dgX_t (hL : Lay sh n z) : DgX sh n z.2.2 75 76 77 := ⟨by have := hL.1; omega, by rw [hL.2.1 75 (by omega)]; rfl, by have := hL.1; omega, by rw [hL.2.1 76 (by omega)]; rfl, by have := hL.1; omega, by rw [hL.2.1 77 (by omega)]; rfl, hL.2.2 75 0 76 rfl, hL.2.2 75 1 77 rfl, by decide, by decide, by decide⟩
theorem wc_start (hL : Lay sh n z) : ∃ z1, fn_X0_start F sh n z 75 = some (z1, ()) ∧ WCd sh n z z1 [] := by
  obtain ⟨z1, a, b, c⟩ := start_t (F := F) (dgX_t hL) (gl [])
  exact ⟨z1, a, b, c⟩
theorem WCd.lay (hL : Lay sh n z) (h : WCd sh n z z1 l) : Lay sh n z1 := hL.of h.2.2.2
theorem WCd.put (hF : 64 < F) (h : WCd sh n z z1 l) {x c : Int32} (hx : x &&& 255 = c &&& 255) : ∃ z2, fn_X0_put F sh n z1 75 x = some (z2, ()) ∧ WCd sh n z z2 (l ++ [c]) := by
  obtain ⟨I, f⟩ := h
  have I' : DP sh n z1 75 76 77 (gl (l ++ [c])) l.length := DP_lo I (fun i hi => (gl_1 hi).symm)
  obtain ⟨z2, a1, a2, a3⟩ := put_p (F := F) (x := x) I' hF (by
    have : gl (l ++ [c]) (l.length + 0) = gl [c] 0 := gl_2
    rw [Nat.add_zero] at this
    rw [this]; exact hx)
  exact ⟨z2, a1, by rw [List.length_append]; exact a2, frD_t f a3⟩
theorem WCd.lng (hF : 64 < F) (h : WCd sh n z z1 l) (x : Int64) : ∃ z2, fn_X0_putLong F sh n z1 75 x = some (z2, ()) ∧ WCd sh n z z2 (l ++ nB x 8) := by
  obtain ⟨I, f⟩ := h
  have I' : DP sh n z1 75 76 77 (gl (l ++ nB x 8)) l.length := DP_lo I (fun i hi => (gl_1 hi).symm)
  obtain ⟨z2, a1, a2, a3⟩ := putL (F := F) (x := x) I' hF (fun i hi => by rw [gl_2, gl_nB x 8 i hi, lb_and])
  exact ⟨z2, a1, by rw [List.length_append, nB_len]; exact a2, frD_t f a3⟩
theorem WCd.four_l (hF : 64 < F) (hL : Lay sh n z) {kr q w : Nat} (hk : kr < 513) (hs : shF kr = (102, w)) (hw : q + 4 ≤ w) (hw2 : w < 2 ^ 31) (h75 : kr ≠ 75) {d : D4} (hd : ∀ k, k < 4 → z.2.1 kr (q + k) = d k) : ∀ m k g z1 l, k + m = 4 → m < g → WCd sh n z z1 l → ∃ z2, fn_X0_putLongs_L2 F sh n kr (nI q) 75 g z1 (nI k) = some (z2, ()) ∧ WCd sh n z z2 (l ++ qBf d m k) := by
  intro m
  induction m with
  | zero =>
    intro k g z1 l h1 h2 W
    obtain ⟨g, rfl⟩ : ∃ q, g = q + 1 := ⟨g - 1, by omega⟩
    have e : k = 4 := by omega
    subst e
    refine ⟨z1, ?_, by rw [show qBf d 0 4 = [] from rfl, List.append_nil]; exact W⟩
    rw [fn_X0_putLongs_L2, if_pos (by decide)]
  | succ m ih =>
    intro k g z1 l h1 h2 W
    obtain ⟨g, rfl⟩ : ∃ q, g = q + 1 := ⟨g - 1, by omega⟩
    obtain ⟨z2, a1, a2⟩ := W.lng hF (d k)
    obtain ⟨z3, b1, b2⟩ := ih (k + 1) g z2 _ (by omega) (by omega) a2
    refine ⟨z3, ?_, by rw [show qBf d (m + 1) k = nB (d k) 8 ++ qBf d m (k + 1) from rfl, ← List.append_assoc]; exact b2⟩
    rw [fn_X0_putLongs_L2, if_neg (show ¬ (4 : Int32) ≤ nI k from fun e => by have := (nI_leW (a := 4) (b := k) (by omega) (by omega)).mp e; omega), nI_add, lay_a (W.lay hL) kr 102 w hk hs, okI_nI (by omega) hw2, grd_true, (b_digt (W.lay hL)).1, grd_true, nI_clamp (by omega), W.2.2.1 kr h75, hd k (by omega), a1, cal_s, show nI k + 1 = nI (k + 1) from nI_add k 1]
    exact b1
theorem WCd.four (hF : 64 < F) (hL : Lay sh n z) (W : WCd sh n z z1 l) (kr q w : Nat) (hk : kr < 513) (hs : shF kr = (102, w)) (hw : q + 4 ≤ w) (hw2 : w < 2 ^ 31) (h75 : kr ≠ 75) {d : D4} (hd : ∀ k, k < 4 → z.2.1 kr (q + k) = d k) : ∃ z2, fn_X0_putLongs F sh n z1 75 kr (nI q) = some (z2, ()) ∧ WCd sh n z z2 (l ++ qB d) := WCd.four_l hF hL hk hs hw hw2 h75 hd 4 0 F z1 l (by omega) (by omega) W
/-- cells that a digest changes, and one row -/
def FTr (z z' : St) (kd : Nat) : Prop := z'.2.2 = z.2.2 ∧ (∀ k, k ≠ 75 → k ≠ 76 → k ≠ 77 → z'.1 k = z.1 k) ∧ ∀ k, k ≠ 75 → k ≠ kd → z'.2.1 k = z.2.1 k
theorem cpy_l (hL : Lay sh n z) (hH : ∀ j, j < 8 → z.1 76 j = HS (pb (gl l) l.length) ((l.length + 9 + pz l.length) / 64) j) {kd q w : Nat} (hk : kd < 513) (hs : shF kd = (102, w)) (hw : q + 4 ≤ w) (hw2 : w < 2 ^ 31) : ∀ m k g z1, k + m = 4 → m < g → (z1.1 = z.1 ∧ z1.2.2 = z.2.2 ∧ (∀ c, c ≠ kd → z1.2.1 c = z.2.1 c) ∧ (∀ i, i < k → z1.2.1 kd (q + i) = hB l i) ∧ ∀ j, j < q ∨ q + 4 ≤ j → z1.2.1 kd j = z.2.1 kd j) → ∃ z2, fn_X0_copyTo_L2 F sh n 75 kd (nI q) g z1 (nI k) = some (z2, ()) ∧ z2.1 = z.1 ∧ z2.2.2 = z.2.2 ∧ (∀ c, c ≠ kd → z2.2.1 c = z.2.1 c) ∧ (∀ i, i < 4 → z2.2.1 kd (q + i) = hB l i) ∧ ∀ j, j < q ∨ q + 4 ≤ j → z2.2.1 kd j = z.2.1 kd j := by
  intro m
  induction m with
  | zero =>
    intro k g z1 h1 h2 ⟨c1, c2, c3, c4, c5⟩
    obtain ⟨g, rfl⟩ : ∃ q, g = q + 1 := ⟨g - 1, by omega⟩
    have e : k = 4 := by omega
    subst e
    refine ⟨z1, ?_, c1, c2, c3, c4, c5⟩
    rw [fn_X0_copyTo_L2, if_pos (by decide)]
  | succ m ih =>
    intro k g z1 h1 h2 ⟨c1, c2, c3, c4, c5⟩
    obtain ⟨g, rfl⟩ : ∃ q, g = q + 1 := ⟨g - 1, by omega⟩
    have hz : Lay sh n z1 := hL.of c2
    have pt := part_t (F := F) (i := k) (dgX_t hz) (by omega)
    have ph : ((z1.1 76 (2 * k)).toInt64 <<< ((32 : Int32).toInt64 &&& 63)) ||| ((z1.1 76 (2 * k + 1)).toInt64 &&& 4294967295) = hB l k := by
      rw [c1, hH _ (by omega), hH _ (by omega), part_four]; rfl
    rw [ph] at pt
    obtain ⟨z2, b1, b2⟩ := ih (k + 1) g (sl z1 kd (q + k) (hB l k)) (by omega) (by omega) ⟨c1, c2, fun c hc => by rw [sl_ok hc]; exact c3 c hc, fun i hi => by
      by_cases e : i = k
      · subst e; rw [sl_ss]
      · rw [sl_oj (by omega)]; exact c4 i (by omega), fun j hj => by rw [sl_oj (by omega)]; exact c5 j hj⟩
    refine ⟨z2, ?_, b2⟩
    rw [fn_X0_copyTo_L2, if_neg (show ¬ (4 : Int32) ≤ nI k from fun e => by have := (nI_leW (a := 4) (b := k) (by omega) (by omega)).mp e; omega), (b_digt hz).1, grd_true, pt, cal_s, nI_add, lay_a hz kd 102 w hk hs, okI_nI (by omega) hw2, grd_true, nI_clamp (by omega), lt_t, show nI k + 1 = nI (k + 1) from nI_add k 1]
    exact b1
theorem WCd.fin (hF : 64 < F) (W : WCd sh n z z1 l) (hl : l.length < 2 ^ 30) : ∃ z2, fn_X0_finish F sh n z1 75 = some (z2, ()) ∧ (∀ j, j < 8 → z2.1 76 j = HS (pb (gl l) l.length) ((l.length + 9 + pz l.length) / 64) j) ∧ frD z z2 75 76 77 := by
  obtain ⟨z2, a1, a2, a3, a4⟩ := fin_t (F := F) W.1 hF hl
  exact ⟨z2, a1, a3, frD_t W.2 a4⟩
theorem cpy_t (hF : 64 < F) (hL : Lay sh n z) (hH : ∀ j, j < 8 → z2.1 76 j = HS (pb (gl l) l.length) ((l.length + 9 + pz l.length) / 64) j) (f : frD z z2 75 76 77) (kd q w : Nat) (hk : kd < 513) (hs : shF kd = (102, w)) (hw : q + 4 ≤ w) (hw2 : w < 2 ^ 31) (h75 : kd ≠ 75) : ∃ z3, fn_X0_copyTo F sh n z2 75 kd (nI q) = some (z3, ()) ∧ FTr z z3 kd ∧ (∀ i, i < 4 → z3.2.1 kd (q + i) = hB l i) ∧ ∀ j, j < q ∨ q + 4 ≤ j → z3.2.1 kd j = z.2.1 kd j := by
  obtain ⟨z3, a1, a2, a3, a4, a5, a6⟩ := cpy_l (F := F) (hL.of f.2.2) hH hk hs hw hw2 4 0 F z2 (by omega) (by omega) ⟨rfl, rfl, fun _ _ => rfl, fun i hi => absurd hi (by omega), fun _ _ => rfl⟩
  refine ⟨z3, a1, ⟨a3.trans f.2.2, fun k q1 q2 q3 => by rw [a2]; exact f.1 k q1 q2 q3, fun k q1 q2 => by rw [a4 k q2]; exact f.2.1 k q1⟩, a5, fun j hj => ?_⟩
  rw [a6 j hj, f.2.1 kd h75]
theorem nth_l (hF : 64 < F) (hL : Lay sh n z) : ∀ m k g z1 l, k + m = 4 → m < g → WCd sh n z z1 l → ∃ z2, fn_X9_putNothing_L2 F sh n 73 g z1 (nI k) = some (z2, ()) ∧ WCd sh n z z2 (l ++ qBf (fun _ => 0) m k) := by
  intro m
  induction m with
  | zero =>
    intro k g z1 l h1 h2 W
    obtain ⟨g, rfl⟩ : ∃ q, g = q + 1 := ⟨g - 1, by omega⟩
    have e : k = 4 := by omega
    subst e
    refine ⟨z1, ?_, by rw [show qBf (fun _ => 0) 0 4 = [] from rfl, List.append_nil]; exact W⟩
    rw [fn_X9_putNothing_L2, if_pos (by decide)]
  | succ m ih =>
    intro k g z1 l h1 h2 W
    obtain ⟨g, rfl⟩ : ∃ q, g = q + 1 := ⟨g - 1, by omega⟩
    obtain ⟨z2, a1, a2⟩ := W.lng hF 0
    obtain ⟨z3, b1, b2⟩ := ih (k + 1) g z2 _ (by omega) (by omega) a2
    refine ⟨z3, ?_, by rw [show qBf (fun _ => 0) (m + 1) k = nB 0 8 ++ qBf (fun _ => 0) m (k + 1) from rfl, ← List.append_assoc]; exact b2⟩
    have hz := W.lay hL
    rw [fn_X9_putNothing_L2, if_neg (show ¬ (4 : Int32) ≤ nI k from fun e => by have := (nI_leW (a := 4) (b := k) (by omega) (by omega)).mp e; omega), (b_tree hz).1, grd_true, (b_tree hz).2.2.1, lnk_s, (b_digt hz).1, grd_true, a1, cal_s, show nI k + 1 = nI (k + 1) from nI_add k 1]
    exact b1
theorem WCd.nth (hF : 64 < F) (hL : Lay sh n z) (W : WCd sh n z z1 l) : ∃ z2, fn_X9_putNothing F sh n z1 73 = some (z2, ()) ∧ WCd sh n z z2 (l ++ qB (fun _ => 0)) := nth_l hF hL 4 0 F z1 l (by omega) (by omega) W
end
