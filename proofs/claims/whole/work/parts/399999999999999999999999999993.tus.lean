/-! THE REFERENCE COLLECTS PLACES: rows, where a place belongs -/
def rnm (x : Plc) : Nat := if x.2.1.1 = 2 then x.2.1.2.2 / 256 else x.2.1.2.2
def PkO (x : Plc) : Prop := x.2.1.1 ≤ 3 ∧ x.2.1.2.2 < 2 ^ 24 ∧ (x.2.1.1 = 2 → x.2.1.2.2 % 256 = 0)
def RRw (z : St) (i : Nat) (x : Plc) : Prop := (∀ k, k < 4 → z.2.1 377 (4 * i + k) = x.1 k) ∧ (∀ k, k < 4 → z.2.1 378 (4 * i + k) = x.2.2 k) ∧ z.1 379 i = nI x.2.1.1 ∧ z.2.1 380 i = x.2.1.2.1 ∧ z.1 381 i = nI (rnm x)
theorem idN_e {x : Plc} (h : PkO x) : idN x = x.2.1.1 * 2 ^ 128 + (N x.2.1.2.1 * 2 ^ 64 + x.2.1.2.2) := by
  unfold idN
  rw [wdN_s, wdN_s, wdN_s, show rw7 x 4 = lN x.2.1.1 from rfl, show rw7 x (4 + 1) = x.2.1.2.1 from rfl, show rw7 x (4 + 1 + 1) = lN x.2.1.2.2 from rfl, N_lN (by have := h.1; omega), N_lN (by have := h.2.1; omega)]
  show _ * 2 ^ (64 * 2) + (_ * 2 ^ (64 * 1) + (_ * 2 ^ (64 * 0) + 0)) = _
  omega
theorem id_le {e x : Plc} (h : PkO e) (h' : PkO x) : idN e ≤ idN x ↔ (e.2.1.1 < x.2.1.1 ∨ (e.2.1.1 = x.2.1.1 ∧ (N e.2.1.2.1 < N x.2.1.2.1 ∨ (N e.2.1.2.1 = N x.2.1.2.1 ∧ rnm e ≤ rnm x)))) := by
  rw [idN_e h, idN_e h']
  have a1 := N_lt e.2.1.2.1
  have a2 := N_lt x.2.1.2.1
  obtain ⟨b1, b2, b3⟩ := h
  obtain ⟨c1, c2, c3⟩ := h'
  unfold rnm
  by_cases q : e.2.1.1 = 2
  · have b4 := b3 q
    rw [if_pos q]
    by_cases r : x.2.1.1 = 2
    · have c4 := c3 r
      rw [if_pos r]
      omega
    · rw [if_neg r]
      omega
  · rw [if_neg q]
    by_cases r : x.2.1.1 = 2
    · rw [if_pos r]
      omega
    · rw [if_neg r]
      omega
section
variable {F n : Nat} {sh : Nat → Nat × Nat} {z z1 : St} {S : List Plc} {x e : Plc}
theorem ord_t {a b : Int64} : fn_X14_order F sh n z a b = some (z, if a = b then 0 else if N b ≤ N a then 1 else -1) := by
  unfold fn_X14_order
  by_cases c : a = b
  · rw [if_pos c, if_pos c]
  · rw [if_neg c, if_neg c]
    have e : (b + (-9223372036854775808) ≤ a + (-9223372036854775808)) ↔ N b ≤ N a := by
      rw [Int64.le_iff_toInt_le, plus_toInt, plus_toInt]
      omega
    by_cases d : N b ≤ N a
    · rw [if_pos (e.mpr d), if_pos d]
    · rw [if_neg (fun w => d (e.mp w)), if_neg d]
theorem beh_t (hF : 100 ≤ F) (hL : Lay sh n z) {i : Nat} (hi : i < 256) (hr : RRw z i e) (hk : ∀ k, k < 4 → z.2.1 421 k = x.1 k) : fn_X14_isBehind F sh n z 376 (nI i) 421 = some (z, if kyN x < kyN e then 1 else 0) := by
  have key : ∀ m k g, k + m = 4 → m < g → fn_X14_isBehind_L2 F sh n 376 (nI i) 421 g z (nI k) = some (z, if wdN x.1 m k < wdN e.1 m k then 1 else 0) := by
    intro m
    induction m with
    | zero =>
      intro k g h1 h2
      obtain ⟨g, rfl⟩ : ∃ q, g = q + 1 := ⟨g - 1, by omega⟩
      have ek : k = 4 := by omega
      subst ek
      rw [fn_X14_isBehind_L2, if_pos (by decide)]
      rfl
    | succ m ih =>
      intro k g h1 h2
      obtain ⟨g, rfl⟩ : ∃ q, g = q + 1 := ⟨g - 1, by omega⟩
      rw [fn_X14_isBehind_L2, if_neg (show ¬ (4 : Int32) ≤ nI k from fun e => by have := (nI_leW (a := 4) (b := k) (by omega) (by omega)).mp e; omega), (b_roots hL).1, grd_true, (b_roots hL).2.1, lnk_s, show (4 : Int32) * nI i = nI (4 * i) from pk_mul 4 i, nI_add, lay_a hL 377 102 1024 (by decide) rfl, okI_nI (by omega) (by omega), grd_true, lay_a hL 421 102 4 (by decide) rfl, okI_nI (by omega) (by omega), grd_true, nI_clamp (by omega), nI_clamp (by omega), hr.1 k (by omega), hk k (by omega), ord_t, cal_s]
      by_cases c : e.1 k = x.1 k
      · rw [if_pos c, if_pos rfl, nI_1, ih (k + 1) g (by omega) (by omega)]
        by_cases d : wdN x.1 m (k + 1) < wdN e.1 m (k + 1)
        · rw [if_pos d, if_pos ((wdN_l2 c.symm).mpr d)]
        · rw [if_neg d, if_neg (fun w => d ((wdN_l2 c.symm).mp w))]
      · rw [if_neg c]
        have ne : N (e.1 k) ≠ N (x.1 k) := fun w => c (N_inj w)
        by_cases d : N (x.1 k) ≤ N (e.1 k)
        · rw [if_pos d, if_neg (by decide), if_neg (by decide), if_pos (wdN_l1 (by omega))]
        · have := wdN_l1 (w := e.1) (v := x.1) (m := m) (p := k) (by omega)
          rw [if_neg d, if_neg (by decide), if_pos (by decide), if_neg (by omega)]
  exact key 4 0 F (by omega) (by omega)
theorem isa_t (hF : 100 ≤ F) (hL : Lay sh n z) {i : Nat} (hi : i < 256) (hr : RRw z i e) (hk : ∀ k, k < 4 → z.2.1 421 k = x.1 k) : ∃ r, fn_X14_isAt F sh n z 376 (nI i) 421 = some (z, r) ∧ (r = 0 ↔ kyN e ≠ kyN x) := by
  have z0 : ∀ m k g, k + m = 4 → m < g → fn_X14_isAt_L5 F sh n 376 (nI i) 421 g z 0 (nI k) = some (z, 0) := by
    intro m
    induction m with
    | zero =>
      intro k g h1 h2
      obtain ⟨g, rfl⟩ : ∃ q, g = q + 1 := ⟨g - 1, by omega⟩
      have ek : k = 4 := by omega
      subst ek
      rw [fn_X14_isAt_L5, if_pos (by decide)]
      rfl
    | succ m ih =>
      intro k g h1 h2
      obtain ⟨g, rfl⟩ : ∃ q, g = q + 1 := ⟨g - 1, by omega⟩
      rw [fn_X14_isAt_L5, if_neg (show ¬ (4 : Int32) ≤ nI k from fun e => by have := (nI_leW (a := 4) (b := k) (by omega) (by omega)).mp e; omega), if_pos rfl]
      unfold fn_X14_isAt_B38 fn_X14_isAt_B39
      rw [nI_1]
      exact ih (k + 1) g (by omega) (by omega)
  have key : ∀ m k g, k + m = 4 → m < g → (∀ j, j < k → e.1 j = x.1 j) → ∃ r, fn_X14_isAt_L5 F sh n 376 (nI i) 421 g z 1 (nI k) = some (z, r) ∧ (r = 0 ↔ kyN e ≠ kyN x) := by
    intro m
    induction m with
    | zero =>
      intro k g h1 h2 h3
      obtain ⟨g, rfl⟩ : ∃ q, g = q + 1 := ⟨g - 1, by omega⟩
      have ek : k = 4 := by omega
      subst ek
      refine ⟨1, by rw [fn_X14_isAt_L5, if_pos (by decide)]; rfl, fun w => absurd w (by decide), fun w => absurd (wdN_c 4 0 (fun j hj => by rw [Nat.zero_add]; exact h3 j hj)) w⟩
    | succ m ih =>
      intro k g h1 h2 h3
      obtain ⟨g, rfl⟩ : ∃ q, g = q + 1 := ⟨g - 1, by omega⟩
      rw [fn_X14_isAt_L5, if_neg (show ¬ (4 : Int32) ≤ nI k from fun e => by have := (nI_leW (a := 4) (b := k) (by omega) (by omega)).mp e; omega), if_neg (by decide), (b_roots hL).1, grd_true, (b_roots hL).2.1, lnk_s, show (4 : Int32) * nI i = nI (4 * i) from pk_mul 4 i, nI_add, lay_a hL 377 102 1024 (by decide) rfl, okI_nI (by omega) (by omega), grd_true, lay_a hL 421 102 4 (by decide) rfl, okI_nI (by omega) (by omega), grd_true, nI_clamp (by omega), nI_clamp (by omega), hr.1 k (by omega), hk k (by omega)]
      by_cases c : e.1 k = x.1 k
      · rw [if_pos c]
        unfold fn_X14_isAt_B39
        rw [nI_1]
        exact ih (k + 1) g (by omega) (by omega) (fun j hj => by
          by_cases w : j = k
          · rw [w]; exact c
          · exact h3 j (by omega))
      · rw [if_neg c]
        unfold fn_X14_isAt_B38 fn_X14_isAt_B39
        rw [nI_1]
        refine ⟨0, z0 m (k + 1) g (by omega) (by omega), fun _ w => c ?_, fun _ => rfl⟩
        have := wdN_e 4 0 w k (by omega)
        rw [Nat.zero_add] at this
        exact this
  exact key 4 0 F (by omega) (by omega) (fun j hj => absurd hj (by omega))
theorem isl_t (hL : Lay sh n z) {i : Nat} (hi : i < 256) (hr : RRw z i e) (he : PkO e) (hx : PkO x) : ∃ r, fn_X14_isLess F sh n z 376 (nI i) (nI x.2.1.1) x.2.1.2.1 (nI (rnm x)) = some (z, r) ∧ (r = 0 ↔ ¬ idN e ≤ idN x) := by
  have R := b_roots hL
  obtain ⟨_, _, q3, q4, q5⟩ := hr
  have k1 := he.1
  have k2 := hx.1
  have r1 : rnm e < 2 ^ 24 := by have := he.2.1; unfold rnm; split <;> omega
  have r2 : rnm x < 2 ^ 24 := by have := hx.2.1; unfold rnm; split <;> omega
  have oi : okI (nI i) 256 = true := okI_nI (by omega) (by omega)
  rw [id_le he hx]
  unfold fn_X14_isLess
  rw [R.1, grd_true, hL.2.2 376 2 379 rfl, lnk_s, lay_a hL 379 101 256 (by decide) rfl, oi, grd_true, nI_clamp (by omega), q3]
  by_cases c1 : e.2.1.1 = x.2.1.1
  · rw [if_pos (by rw [c1]), hL.2.2 376 3 380 rfl, lnk_s, lay_a hL 380 102 256 (by decide) rfl, oi, grd_true, q4]
    by_cases c2 : e.2.1.2.1 = x.2.1.2.1
    · have c2' : N e.2.1.2.1 = N x.2.1.2.1 := by rw [c2]
      rw [if_pos c2, hL.2.2 376 4 381 rfl, lnk_s, lay_a hL 381 101 256 (by decide) rfl, oi, grd_true, q5]
      by_cases c3 : rnm x < rnm e
      · rw [if_pos ((nI_ltW (by omega) (by omega)).mpr c3)]
        exact ⟨0, rfl, fun _ => by omega, fun _ => rfl⟩
      · rw [if_neg (fun w => c3 ((nI_ltW (by omega) (by omega)).mp w))]
        exact ⟨1, rfl, fun w => absurd w (by decide), fun w => absurd (.inr ⟨c1, .inr ⟨c2', by omega⟩⟩) w⟩
    · have c2' : N e.2.1.2.1 ≠ N x.2.1.2.1 := fun w => c2 (N_inj w)
      rw [if_neg c2, lnk_s, lay_a hL 380 102 256 (by decide) rfl, oi, grd_true, q4, ord_t, cal_s, if_neg c2]
      by_cases c3 : N x.2.1.2.1 ≤ N e.2.1.2.1
      · rw [if_pos c3, if_pos (by decide)]
        exact ⟨0, rfl, fun _ => by omega, fun _ => rfl⟩
      · rw [if_neg c3, if_neg (by decide)]
        exact ⟨1, rfl, fun w => absurd w (by decide), fun w => absurd (.inr ⟨c1, .inl (by omega)⟩) w⟩
  · rw [if_neg (fun w => c1 (nI_uq w (by omega) (by omega))), lnk_s, lay_a hL 379 101 256 (by decide) rfl, oi, grd_true, q3]
    by_cases c3 : x.2.1.1 ≤ e.2.1.1
    · rw [if_pos ((nI_leW (by omega) (by omega)).mpr c3)]
      exact ⟨0, rfl, fun _ => by omega, fun _ => rfl⟩
    · rw [if_neg (fun w => c3 ((nI_leW (by omega) (by omega)).mp w))]
      exact ⟨1, rfl, fun w => absurd w (by decide), fun w => absurd (.inl (by omega)) w⟩
/-- a row is written -/
def RWr (z z' : St) (i : Nat) (x : Plc) : Prop := z'.2.2 = z.2.2 ∧ (∀ k, k ≠ 379 → k ≠ 381 → z'.1 k = z.1 k) ∧ (∀ k, k ≠ 377 → k ≠ 378 → k ≠ 380 → z'.2.1 k = z.2.1 k) ∧ RRw z' i x ∧ ∀ j y, j ≠ i → RRw z j y → RRw z' j y
/-- a row, as far as word p -/
def RWp (z z' : St) (i p : Nat) (x : Plc) : Prop := z'.1 = z.1 ∧ z'.2.2 = z.2.2 ∧ (∀ k, k ≠ 377 → k ≠ 378 → z'.2.1 k = z.2.1 k) ∧ (∀ k, k < p → z'.2.1 377 (4 * i + k) = x.1 k ∧ z'.2.1 378 (4 * i + k) = x.2.2 k) ∧ ∀ j, (j < 4 * i ∨ 4 * i + 4 ≤ j) → z'.2.1 377 j = z.2.1 377 j ∧ z'.2.1 378 j = z.2.1 378 j
theorem RWp.s {z' : St} {i p : Nat} (h : RWp z z' i p x) (hp : p < 4) : RWp z (sl (sl z' 377 (4 * i + p) (x.1 p)) 378 (4 * i + p) (x.2.2 p)) i (p + 1) x := by
  obtain ⟨a1, a2, a3, a4, a5⟩ := h
  refine ⟨a1, a2, fun k k1 k2 => by rw [sl_ok k2, sl_ok k1]; exact a3 k k1 k2, fun k hk => ?_, fun j hj => ?_⟩
  · by_cases c : k = p
    · subst c
      exact ⟨by rw [sl_ok (by decide), sl_ss], by rw [sl_ss]⟩
    · rw [sl_ok (show 377 ≠ 378 by decide), sl_oj (by omega), sl_oj (by omega), sl_ok (show 378 ≠ 377 by decide)]
      exact a4 k (by omega)
  · rw [sl_ok (show 377 ≠ 378 by decide), sl_oj (by omega), sl_oj (by omega), sl_ok (show 378 ≠ 377 by decide)]
    exact a5 j hj
theorem RWp.done {z' : St} {i : Nat} (h : RWp z z' i 4 x) : RWr z (si (sl (si z' 379 i (nI x.2.1.1)) 380 i x.2.1.2.1) 381 i (nI (rnm x))) i x := by
  obtain ⟨a1, a2, a3, a4, a5⟩ := h
  refine ⟨a2, fun k k1 k2 => ?_, fun k k1 k2 k3 => ?_, ⟨fun k hk => ?_, fun k hk => ?_, ?_, ?_, si_ss⟩, fun j y hj hy => ⟨fun k hk => ?_, fun k hk => ?_, ?_, ?_, ?_⟩⟩
  · rw [si_ok k2, sl_1, si_ok k1, a1]
  · rw [si_2, sl_ok k3, si_2]; exact a3 k k1 k2
  · rw [si_2, sl_ok (by decide), si_2]; exact (a4 k hk).1
  · rw [si_2, sl_ok (by decide), si_2]; exact (a4 k hk).2
  · rw [si_ok (by decide), sl_1, si_ss]
  · rw [si_2, sl_ss]
  · rw [si_2, sl_ok (by decide), si_2, (a5 _ (by omega)).1]; exact hy.1 k hk
  · rw [si_2, sl_ok (by decide), si_2, (a5 _ (by omega)).2]; exact hy.2.1 k hk
  · rw [si_ok (by decide), sl_1, si_oj hj, a1]; exact hy.2.2.1
  · rw [si_2, sl_oj hj, si_2, a3 380 (by decide) (by decide)]; exact hy.2.2.2.1
  · rw [si_oj hj, sl_1, si_ok (by decide), a1]; exact hy.2.2.2.2
theorem keep_w (hF : 100 ≤ F) (hL : Lay sh n z) {i : Nat} (hi : i < 256) (hk : ∀ k, k < 4 → z.2.1 421 k = x.1 k) (hv : ∀ k, k < 4 → z.2.1 422 k = x.2.2 k) : ∃ z', fn_X14_keep F sh n z 376 (nI i) 421 422 (nI x.2.1.1) x.2.1.2.1 (nI (rnm x)) = some (z', ()) ∧ RWr z z' i x := by
  have oi : okI (nI i) 256 = true := okI_nI (by omega) (by omega)
  have ci : (nI i).toNatClampNeg = i := nI_clamp (by omega)
  have key : ∀ m p g z1, p + m = 4 → m < g → RWp z z1 i p x → ∃ z', fn_X14_keep_L3 F sh n 376 (nI i) (nI x.2.1.1) x.2.1.2.1 (nI (rnm x)) 421 422 g z1 (nI p) = some (z', ()) ∧ RWr z z' i x := by
    intro m
    induction m with
    | zero =>
      intro p g z1 h1 h2 h
      obtain ⟨g, rfl⟩ : ∃ q, g = q + 1 := ⟨g - 1, by omega⟩
      have ep : p = 4 := by omega
      subst ep
      have l1 : Lay sh n z1 := hL.of h.2.1
      refine ⟨_, ?_, h.done⟩
      rw [fn_X14_keep_L3, if_pos (by decide), (b_roots l1).1, grd_true, l1.2.2 376 2 379 rfl, lnk_s, lay_a hL 379 101 256 (by decide) rfl, oi, grd_true, ci, lt_t, si_3, l1.2.2 376 3 380 rfl, lnk_s, lay_a hL 380 102 256 (by decide) rfl, oi, grd_true, lt_t, sl_3, si_3, l1.2.2 376 4 381 rfl, lnk_s, lay_a hL 381 101 256 (by decide) rfl, oi, grd_true, lt_t]
    | succ m ih =>
      intro p g z1 h1 h2 h
      obtain ⟨g, rfl⟩ : ∃ q, g = q + 1 := ⟨g - 1, by omega⟩
      have l1 : Lay sh n z1 := hL.of h.2.1
      obtain ⟨z', a1, a2⟩ := ih (p + 1) g _ (by omega) (by omega) (h.s (by omega))
      refine ⟨z', ?_, a2⟩
      rw [fn_X14_keep_L3, if_neg (show ¬ (4 : Int32) ≤ nI p from fun e => by have := (nI_leW (a := 4) (b := p) (by omega) (by omega)).mp e; omega), (b_roots l1).1, grd_true, (b_roots l1).2.1, lnk_s, lay_a hL 421 102 4 (by decide) rfl, okI_nI (by omega) (by omega), grd_true, show (4 : Int32) * nI i = nI (4 * i) from pk_mul 4 i, nI_add, lay_a hL 377 102 1024 (by decide) rfl, okI_nI (by omega) (by omega), grd_true, nI_clamp (by omega), nI_clamp (show p < 2 ^ 31 by omega), h.2.2.1 421 (by decide) (by decide), hk p (by omega), lt_t, sl_3, (b_roots l1).2.2.1, lnk_s, lay_a hL 422 102 4 (by decide) rfl, okI_nI (by omega) (by omega), grd_true, lay_a hL 378 102 1024 (by decide) rfl, okI_nI (by omega) (by omega), grd_true, sl_ok (show 422 ≠ 377 by decide), h.2.2.1 422 (by decide) (by decide), hv p (by omega), lt_t, nI_1]
      exact a1
  exact key 4 0 F z (by omega) (by omega) ⟨rfl, rfl, fun _ _ _ => rfl, fun k hk => absurd hk (by omega), fun _ _ => ⟨rfl, rfl⟩⟩
/-- a row is copied one further -/
theorem copy_w (hF : 100 ≤ F) (hL : Lay sh n z) {i : Nat} (hi : i + 1 < 256) (hr : RRw z i x) {ko : St → Int32 → Option (St × Unit)} : ∃ z', fn_X14_put_L94 F sh n 376 (nI (i + 1)) ko F z 0 = ko z' (nI i) ∧ RWr z z' (i + 1) x := by
  have oi : okI (nI (i + 1)) 256 = true := okI_nI (by omega) (by omega)
  have oj : okI (nI i) 256 = true := okI_nI (by omega) (by omega)
  have ci : (nI (i + 1)).toNatClampNeg = i + 1 := nI_clamp (by omega)
  have cj : (nI i).toNatClampNeg = i := nI_clamp (by omega)
  have e1 : nI (i + 1) - 1 = nI i := (pk_sub (a := i + 1) (b := 1) (by omega)).trans (by rw [show i + 1 - 1 = i by omega])
  have key : ∀ m p g z1, p + m = 4 → m < g → RWp z z1 (i + 1) p x → ∃ z', fn_X14_put_L94 F sh n 376 (nI (i + 1)) ko g z1 (nI p) = ko z' (nI i) ∧ RWr z z' (i + 1) x := by
    intro m
    induction m with
    | zero =>
      intro p g z1 h1 h2 h
      obtain ⟨g, rfl⟩ : ∃ q, g = q + 1 := ⟨g - 1, by omega⟩
      have ep : p = 4 := by omega
      subst ep
      have l1 : Lay sh n z1 := hL.of h.2.1
      refine ⟨_, ?_, h.done⟩
      rw [fn_X14_put_L94, if_pos (by decide), e1, l1.2.2 376 2 379 rfl, lnk_s, lnk_s, lay_a hL 379 101 256 (by decide) rfl, oj, grd_true, lay_a hL 379 101 256 (by decide) rfl, oi, grd_true, ci, cj, h.1, hr.2.2.1, lt_t, si_3, l1.2.2 376 3 380 rfl, lnk_s, lnk_s, lay_a hL 380 102 256 (by decide) rfl, oj, grd_true, lay_a hL 380 102 256 (by decide) rfl, oi, grd_true, si_2, h.2.2.1 380 (by decide) (by decide), hr.2.2.2.1, lt_t, sl_3, si_3, l1.2.2 376 4 381 rfl, lnk_s, lnk_s, lay_a hL 381 101 256 (by decide) rfl, oj, grd_true, lay_a hL 381 101 256 (by decide) rfl, oi, grd_true, sl_1, si_ok (show 381 ≠ 379 by decide), h.1, hr.2.2.2.2, lt_t, show nI (i + 1) + (-1) = nI i from by rw [← Int32.sub_eq_add_neg]; exact e1]
    | succ m ih =>
      intro p g z1 h1 h2 h
      obtain ⟨g, rfl⟩ : ∃ q, g = q + 1 := ⟨g - 1, by omega⟩
      have l1 : Lay sh n z1 := hL.of h.2.1
      obtain ⟨z', a1, a2⟩ := ih (p + 1) g _ (by omega) (by omega) (h.s (by omega))
      refine ⟨z', ?_, a2⟩
      have m4 : (4 * nI (i + 1) - 4 + nI p : Int32) = nI (4 * i + p) := by
        rw [show (4 : Int32) * nI (i + 1) = nI (4 * (i + 1)) from pk_mul 4 (i + 1), show nI (4 * (i + 1)) - 4 = nI (4 * i) from (pk_sub (a := 4 * (i + 1)) (b := 4) (by omega)).trans (by rw [show 4 * (i + 1) - 4 = 4 * i by omega]), nI_add]
      have w1 := (h.2.2.2.2 (4 * i + p) (by omega)).1
      have w2 := (h.2.2.2.2 (4 * i + p) (by omega)).2
      rw [fn_X14_put_L94, if_neg (show ¬ (4 : Int32) ≤ nI p from fun e => by have := (nI_leW (a := 4) (b := p) (by omega) (by omega)).mp e; omega), (b_roots l1).2.1, lnk_s, lnk_s, m4, show (4 : Int32) * nI (i + 1) = nI (4 * (i + 1)) from pk_mul 4 (i + 1), nI_add, lay_a hL 377 102 1024 (by decide) rfl, okI_nI (by omega) (by omega), grd_true, lay_a hL 377 102 1024 (by decide) rfl, okI_nI (by omega) (by omega), grd_true, nI_clamp (show 4 * (i + 1) + p < 2 ^ 31 by omega), nI_clamp (show 4 * i + p < 2 ^ 31 by omega), w1, hr.1 p (by omega), lt_t, sl_3, (b_roots l1).2.2.1, lnk_s, lnk_s, lay_a hL 378 102 1024 (by decide) rfl, okI_nI (by omega) (by omega), grd_true, lay_a hL 378 102 1024 (by decide) rfl, okI_nI (by omega) (by omega), grd_true, sl_ok (show 378 ≠ 377 by decide), w2, hr.2.1 p (by omega), lt_t, nI_1]
      exact a1
  exact key 4 0 F z (by omega) (by omega) ⟨rfl, rfl, fun _ _ _ => rfl, fun k hk => absurd hk (by omega), fun _ _ => ⟨rfl, rfl⟩⟩
end
