/-! THE CLASS CLIMBS: level by level, key by key -/
section
variable {F n : Nat} {sh : Nat → Nat × Nat} {z0 z z1 : St} {S : List Plc} {o : Nat → Nat} {st : List (Nat × D4)} {d : D4} {l : List Int32}
theorem KSt.lay (hL : Lay sh n z0) (h : KSt z0 z S o st d) : Lay sh n z := hL.of h.1.1
/-- the bit that is looked at -/
theorem cl_bit (hL : Lay sh n z) (h : CSt z S o) {i : Nat} {x : Plc} (hx : S[i]? = some x) {L : Nat} (hL2 : L < 256) : okA sh n 78 102 (nI (7 * o i) + (nI (L + 1) - 1) / 64) = true ∧ (((((z.2.1 78 (nI (7 * o i) + (nI (L + 1) - 1) / 64).toNatClampNeg) : Int64).toUInt64 >>> (((63 - ((nI (L + 1) - 1) - (nI (L + 1) - 1) / 64 * 64)) : Int32).toInt64.toUInt64 &&& Int64.toUInt64 63)).toInt64) &&& 1 = 0 ↔ kbt (kyN x) L = 0) := by
  obtain ⟨a1, a2, a3, a4⟩ := h.2.2 i x hx
  have e0 : nI (L + 1) - 1 = nI L := (pk_sub (a := L + 1) (b := 1) (by omega)).trans (by rw [show L + 1 - 1 = L by omega])
  have e1 : nI L / 64 = nI (L / 64) := pk_div (d := 64) (by omega) (by decide) (by decide)
  have e2 : nI L - nI (L / 64) * 64 = nI (L % 64) := by
    rw [← e1]
    exact pk_rem (d := 64) (by omega) (by decide) (by decide)
  have e3 : (63 : Int32) - nI (L % 64) = nI (63 - L % 64) := pk_sub (a := 63) (by omega)
  rw [e0, e1, e2, e3, nI_add, lay_a hL 78 102 1792 (by decide) rfl, nI_clamp (by omega), a3 _ (by omega)]
  refine ⟨okI_nI (by omega) (by omega), ?_⟩
  rw [i64_1, N_ushK (by omega), ← kbt_w hL2]
  exact Iff.rfl
/-- one level up -/
theorem cl_up0 (hF : 100 ≤ F) (hL : Lay sh n z0) (h : KSt z0 z S o st d) {i : Nat} {x : Plc} (hx : S[i]? = some x) {L u : Nat} (hL2 : L < 256) (hu : u ≤ L) (hb : kbt (kyN x) L = 0) {g : Nat} : ∃ z', fn_X9_climb_L50 F sh n (nI u) 73 (nI (7 * o i)) (g + 1) z (nI (L + 1)) = fn_X9_climb_L50 F sh n (nI u) 73 (nI (7 * o i)) g z' (nI L) ∧ KSt z0 z' S o st (ndH d (fun _ => 0)) := by
  have lz := h.lay hL
  obtain ⟨b1, b2⟩ := cl_bit lz h.2.1 hx hL2
  obtain ⟨z3, a1, a2⟩ := b120_0 (F := F) (L := L) (p := 0) (ko := fun z9 q4 => fn_X9_climb_L50 F sh n (nI u) 73 (nI (7 * o i)) g z9 q4) hF lz h
  refine ⟨z3, ?_, a2⟩
  rw [fn_X9_climb_L50, if_neg (show ¬ nI (L + 1) ≤ nI u from fun e => by have := (nI_leW (a := L + 1) (b := u) (by omega) (by omega)).mp e; omega), lz.2.2 73 3 78 rfl, lnk_s, b1, grd_true, lt_t, b2.mpr hb, if_pos rfl]
  exact a1
theorem cl_up1 (hF : 100 ≤ F) (hL : Lay sh n z0) (h : KSt z0 z S o st d) (hs : st.length ≤ 256) {i : Nat} {x : Plc} (hx : S[i]? = some x) {L u : Nat} (hL2 : L < 256) (hu : u ≤ L) (hb : kbt (kyN x) L = 1) (ht : ∀ e, e ∈ st → e.1 ≤ L) {g : Nat} : ∃ z', fn_X9_climb_L50 F sh n (nI u) 73 (nI (7 * o i)) (g + 1) z (nI (L + 1)) = fn_X9_climb_L50 F sh n (nI u) 73 (nI (7 * o i)) g z' (nI L) ∧ KSt z0 z' S o st (ndH (fun _ => 0) d) := by
  have lz := h.lay hL
  obtain ⟨b1, b2⟩ := cl_bit lz h.2.1 hx hL2
  have nv := (not_congr b2).mpr (by rw [hb]; decide)
  obtain ⟨z3, a1, a2⟩ := b120_1 (F := F) (L := L) (ko := fun z9 q4 => fn_X9_climb_L50 F sh n (nI u) 73 (nI (7 * o i)) g z9 q4) hF lz h nv
  refine ⟨z3, ?_, a2⟩
  rw [fn_X9_climb_L50, if_neg (show ¬ nI (L + 1) ≤ nI u from fun e => by have := (nI_leW (a := L + 1) (b := u) (by omega) (by omega)).mp e; omega), lz.2.2 73 3 78 rfl, lnk_s, b1, grd_true, lt_t, if_neg nv, h.2.2.1.1]
  by_cases c : st.length = 0
  · rw [if_pos (show nI st.length ≤ 0 by rw [c]; decide)]
    exact a1
  · have ec : nI st.length - 1 = nI (st.length - 1) := pk_sub (a := st.length) (b := 1) (by omega)
    have hm : st[st.length - 1]? = some (st[st.length - 1]'(by omega)) := List.getElem?_eq_getElem (by omega)
    have t1 := h.2.2.1.2 _ _ hm
    have t2 := ht _ (List.getElem_mem (by omega : st.length - 1 < st.length))
    rw [if_neg (show ¬ nI st.length ≤ 0 from fun e => by have := (nI_leW (a := st.length) (b := 0) (by omega) (by omega)).mp e; omega), lz.2.2 73 11 85 rfl, lnk_s, ec, lay_a lz 85 101 257 (by decide) rfl, okI_nI (by omega) (by omega), grd_true, nI_clamp (by omega), t1.1, if_neg (fun e => by have := nI_uq (b := L + 1) e (by omega) (by omega); omega)]
    exact a1
theorem cl_up2 (hF : 100 ≤ F) (hL : Lay sh n z0) {L : Nat} {e : D4} (h : KSt z0 z S o (st ++ [(L + 1, e)]) d) (hs : st.length < 256) {i : Nat} {x : Plc} (hx : S[i]? = some x) {u : Nat} (hL2 : L < 256) (hu : u ≤ L) (hb : kbt (kyN x) L = 1) {g : Nat} : ∃ z', fn_X9_climb_L50 F sh n (nI u) 73 (nI (7 * o i)) (g + 1) z (nI (L + 1)) = fn_X9_climb_L50 F sh n (nI u) 73 (nI (7 * o i)) g z' (nI L) ∧ KSt z0 z' S o st (ndH e d) := by
  have lz := h.lay hL
  obtain ⟨b1, b2⟩ := cl_bit lz h.2.1 hx hL2
  have nv := (not_congr b2).mpr (by rw [hb]; decide)
  obtain ⟨z3, a1, a2⟩ := b120_2 (F := F) (L := L) (ko := fun z9 q4 => fn_X9_climb_L50 F sh n (nI u) 73 (nI (7 * o i)) g z9 q4) hF lz h (by omega) nv
  refine ⟨z3, ?_, a2⟩
  have ec : nI (st.length + 1) - 1 = nI st.length := (pk_sub (a := st.length + 1) (b := 1) (by omega)).trans (by rw [show st.length + 1 - 1 = st.length by omega])
  have t1 := h.2.2.1.2 st.length (L + 1, e) (by simp)
  rw [fn_X9_climb_L50, if_neg (show ¬ nI (L + 1) ≤ nI u from fun e => by have := (nI_leW (a := L + 1) (b := u) (by omega) (by omega)).mp e; omega), lz.2.2 73 3 78 rfl, lnk_s, b1, grd_true, lt_t, if_neg nv, h.2.2.1.1, List.length_append, List.length_singleton, if_neg (show ¬ nI (st.length + 1) ≤ 0 from fun e => by have := (nI_leW (a := st.length + 1) (b := 0) (by omega) (by omega)).mp e; omega), lz.2.2 73 11 85 rfl, lnk_s, ec, lay_a lz 85 101 257 (by decide) rfl, okI_nI (by omega) (by omega), grd_true, nI_clamp (by omega), t1.1, if_pos rfl]
  exact a1
/-- a key's way ends: it waits -/
theorem cl_push (hL : Lay sh n z0) (h : KSt z0 z S o st d) (hs : st.length ≤ 256) {u v : Nat} (hu : u ≤ 256) {g : Nat} : ∃ z', fn_X9_climb_L50 F sh n (nI u) 73 (nI v) (g + 1) z (nI u) = some (z', ()) ∧ KSt z0 z' S o (st ++ [(u, d)]) d := by
  have lz := h.lay hL
  refine ⟨si (si (scl z 84 (z.2.1 83) 0 (4 * st.length) 4) 85 st.length (nI u)) 73 12 (nI (st.length + 1)), ?_, h.1.trans ⟨rfl, fun k q => ⟨?_, ?_⟩, si_oj (by decide)⟩, h.2.1.of (si_oj (by decide)) (by rw [si_ok (by decide), si_ok (by decide)]; rfl) ?_ ?_, ⟨by rw [List.length_append]; exact si_ss, fun s e he => ?_⟩, fun k hk => ?_⟩
  · have oc : okC (sh 83).2 (sh 84).2 0 (nI (4 * st.length)) 4 = true := by
      rw [lz.2.1 83 (by omega), lz.2.1 84 (by omega)]
      have e := nI_toInt (n := 4 * st.length) (by omega)
      show okC 4 1028 0 (nI (4 * st.length)) 4 = true
      unfold okC
      rw [nI_clamp (by omega), e]
      simp
      omega
    have l1 : Lay sh n (scl z 84 (z.2.1 83) 0 (4 * st.length) 4) := lz.of rfl
    rw [fn_X9_climb_L50, if_pos ((nI_leW (by omega) (by omega)).mpr (Nat.le_refl u)), h.2.2.1.1, if_neg (show ¬ (256 : Int32) < nI st.length from fun e => by have := (nI_ltW (a := 256) (b := st.length) (by omega) (by omega)).mp e; omega), lz.2.2 73 9 83 rfl, lnk_s, lz.2.2 73 10 84 rfl, lnk_s, lay_o lz 84 102 1028 (by decide) rfl, grd_true, lay_o lz 83 102 4 (by decide) rfl, grd_true, show (nI st.length * 4 : Int32) = nI (4 * st.length) from by rw [show (4 : Int32) = nI 4 from rfl, pk_mul, Nat.mul_comm], oc, grd_true, nI_clamp (show 4 * st.length < 2 ^ 31 by omega), lt_t]
    show lnk ((scl z 84 (z.2.1 83) 0 (4 * st.length) 4).2.2 73 11) _ = _
    rw [l1.2.2 73 11 85 rfl, lnk_s, scl_1, h.2.2.1.1, lay_a lz 85 101 257 (by decide) rfl, okI_nI (by omega) (by omega), grd_true, nI_clamp (by omega), lt_t, si_ok (by decide), scl_1, h.2.2.1.1, lt_t, nI_1]
    rfl
  · rw [si_ok (by omega), si_ok (by omega), scl_1]
  · funext j
    show (scl z 84 (z.2.1 83) 0 (4 * st.length) 4).2.1 k j = _
    rw [scl_o (by omega)]
  · funext j
    show (scl z 84 (z.2.1 83) 0 (4 * st.length) 4).2.1 78 j = _
    rw [scl_o (by decide)]
  · funext j
    show (scl z 84 (z.2.1 83) 0 (4 * st.length) 4).2.1 79 j = _
    rw [scl_o (by decide)]
  · by_cases c : s < st.length
    · rw [List.getElem?_append_left c] at he
      obtain ⟨q1, q2, q3⟩ := h.2.2.1.2 s e he
      refine ⟨?_, q2, fun k hk => ?_⟩
      · rw [si_ok (by decide), si_oj (by omega), scl_1]; exact q1
      · show (scl z 84 (z.2.1 83) 0 (4 * st.length) 4).2.1 84 (4 * s + k) = _
        rw [scl_k, if_neg (by omega)]
        exact q3 k hk
    · have es : s = st.length := by
        obtain ⟨q, _⟩ := List.getElem?_eq_some_iff.mp he
        rw [List.length_append, List.length_singleton] at q
        omega
      subst es
      have : (u, d) = e := by simpa using he
      subst this
      refine ⟨?_, hu, fun k hk => ?_⟩
      · rw [si_ok (by decide), si_ss]
      · show (scl z 84 (z.2.1 83) 0 (4 * st.length) 4).2.1 84 (4 * st.length + k) = _
        rw [scl_k, if_pos (by omega), show 0 + (4 * st.length + k - 4 * st.length) = k by omega]
        exact h.2.2.2 k hk
  · show (scl z 84 (z.2.1 83) 0 (4 * st.length) 4).2.1 83 k = _
    rw [scl_o (by decide)]
    exact h.2.2.2 k hk
/-- where a key parts from the next one -/
theorem prt_t (hF : 100 ≤ F) (hL : Lay sh n z) (h : CSt z S o) (sk : SrK S) {i : Nat} (hi : i < S.length) : ∃ u, fn_X9_parting F sh n z 73 (nI i) = some (z, nI u) ∧ u ≤ 256 ∧ (∀ x y, S[i]? = some x → S[i + 1]? = some y → PtR (kyN x) (kyN y) u) ∧ (S.length ≤ i + 1 → u = 0) := by
  have l256 := h.2.1
  unfold fn_X9_parting
  rw [if_neg (nI_pos (by omega)), (b_tree hL).1, grd_true, h.1, nI_1]
  by_cases c : i + 1 < S.length
  · have hx : S[i]? = some S[i] := List.getElem?_eq_getElem hi
    have hy : S[i + 1]? = some S[i + 1] := List.getElem?_eq_getElem c
    obtain ⟨a1, a2, a3, _⟩ := h.2.2 i _ hx
    obtain ⟨b1, b2, b3, _⟩ := h.2.2 (i + 1) _ hy
    have lt := List.pairwise_iff_getElem.mp sk i (i + 1) hi c (by omega)
    obtain ⟨r, r1, r2⟩ := fdf_t (F := F) hF hL a2 b2 a3 b3
    rcases r2 with ⟨_, q⟩ | ⟨q1, q2⟩
    · exfalso
      have : kyN S[i] = kyN S[i + 1] := q
      omega
    · refine ⟨r + 1, ?_, by omega, fun x y ex ey => ?_, fun q => by omega⟩
      · rw [if_pos ((nI_ltW (by omega) (by omega)).mpr c), hL.2.2 73 6 81 rfl, lnk_s, lay_a hL 81 101 256 (by decide) rfl, okI_nI (by omega) (by omega), grd_true, lnk_s, lay_a hL 81 101 256 (by decide) rfl, okI_nI (by omega) (by omega), grd_true, nI_clamp (by omega), nI_clamp (by omega), a1, b1, r1, cal_s, nI_1, if_neg (show ¬ (256 : Int32) < nI (r + 1) from fun e => by have := (nI_ltW (a := 256) (b := r + 1) (by omega) (by omega)).mp e; omega), lt_t]
      · rw [hx] at ex
        rw [hy] at ey
        have e1 := Option.some.inj ex
        have e2 := Option.some.inj ey
        rw [← e1, ← e2]
        exact q2
  · refine ⟨0, ?_, by omega, fun x y _ ey => ?_, fun _ => rfl⟩
    · rw [if_neg (fun e => c ((nI_ltW (by omega) (by omega)).mp e))]; rfl
    · rw [List.getElem?_eq_none (by omega)] at ey
      cases ey
theorem prt_m (hF : 100 ≤ F) (hL : Lay sh n z) (h : CSt z S o) (sk : SrK S) {i : Nat} (hi : i < S.length) : ∃ u, fn_X9_parting F sh n z 73 (nI i - 1) = some (z, nI u) ∧ u ≤ 256 ∧ (∀ j x y, j + 1 = i → S[j]? = some x → S[i]? = some y → PtR (kyN x) (kyN y) u) ∧ (i = 0 → u = 0) := by
  cases i with
  | zero =>
    refine ⟨0, ?_, by omega, fun j _ _ e => by omega, fun _ => rfl⟩
    unfold fn_X9_parting
    rw [if_pos (by decide)]; rfl
  | succ j =>
    obtain ⟨u, a, b, c, d⟩ := prt_t (F := F) hF hL h sk (i := j) (by omega)
    refine ⟨u, ?_, b, fun j' x y e ex ey => ?_, fun e => by omega⟩
    · rw [show nI (j + 1) - 1 = nI j from (pk_sub (a := j + 1) (b := 1) (by omega)).trans (by rw [show j + 1 - 1 = j by omega])]
      exact a
    · have : j' = j := by omega
      subst this
      exact c x y ex ey
/-- a key's way begins -/
theorem cl_beg (hF : 100 ≤ F) (hL : Lay sh n z0) (h : KSt z0 z S o st d) (sk : SrK S) {i : Nat} {x : Plc} (hx : S[i]? = some x) : ∃ u u' z', fn_X9_climb F sh n z 73 (nI i) = fn_X9_climb_L50 F sh n (nI u) 73 (nI (7 * o i)) F z' (nI (if u' < u then u else u')) ∧ KSt z0 z' S o st (lfP x) ∧ u ≤ 256 ∧ u' ≤ 256 ∧ (∀ y, S[i + 1]? = some y → PtR (kyN x) (kyN y) u) ∧ (S.length ≤ i + 1 → u = 0) ∧ (∀ j y, j + 1 = i → S[j]? = some y → PtR (kyN y) (kyN x) u') ∧ (i = 0 → u' = 0) := by
  have lz := h.lay hL
  have hi : i < S.length := (List.getElem?_eq_some_iff.mp hx).1
  have l256 := h.2.1.2.1
  obtain ⟨a1, a2, a3, a4⟩ := h.2.1.2.2 i x hx
  obtain ⟨u, p1, p2, p3, p4⟩ := prt_t (F := F) hF lz h.2.1 sk hi
  obtain ⟨u', q1, q2, q3, q4⟩ := prt_m (F := F) hF lz h.2.1 sk hi
  refine ⟨u, u', scl z 83 (z.2.1 79) (4 * o i) 0 4, ?_, ⟨h.1.trans ⟨rfl, fun k q => ⟨rfl, ?_⟩, rfl⟩, h.2.1.of rfl rfl ?_ ?_, h.2.2.1.of rfl rfl ?_, fun k hk => ?_⟩, p2, q2, fun y hy => p3 x y hx hy, p4, fun j y e hy => q3 j y x e hy hx, q4⟩
  · have oc : okC (sh 79).2 (sh 83).2 (nI (4 * o i)) 0 4 = true := by
      rw [lz.2.1 79 (by omega), lz.2.1 83 (by omega)]
      have e := nI_toInt (n := 4 * o i) (by omega)
      show okC 1024 4 (nI (4 * o i)) 0 4 = true
      unfold okC
      rw [nI_clamp (by omega), e]
      simp
      omega
    unfold fn_X9_climb
    rw [(b_tree lz).1, grd_true, lz.2.2 73 6 81 rfl, lnk_s, lay_a lz 81 101 256 (by decide) rfl, okI_nI (by omega) (by omega), grd_true, nI_clamp (by omega), a1, lt_t, p1, cal_s, q1, cal_s, lt_t, lz.2.2 73 4 79 rfl, lnk_s, lz.2.2 73 6 81 rfl, lnk_s, lay_a lz 81 101 256 (by decide) rfl, okI_nI (by omega) (by omega), grd_true, lz.2.2 73 9 83 rfl, lnk_s, lay_o lz 83 102 4 (by decide) rfl, grd_true, lay_o lz 79 102 1024 (by decide) rfl, grd_true, a1, show (nI (o i) * 4 : Int32) = nI (4 * o i) from by rw [show (4 : Int32) = nI 4 from rfl, pk_mul, Nat.mul_comm], oc, grd_true, nI_clamp (show 4 * o i < 2 ^ 31 by omega), lt_t, show (nI (o i) * 7 : Int32) = nI (7 * o i) from by rw [show (7 : Int32) = nI 7 from rfl, pk_mul, Nat.mul_comm]]
    by_cases c : u' < u
    · rw [if_pos c, if_pos ((nI_ltW (by omega) (by omega)).mpr c)]; rfl
    · rw [if_neg c, if_neg (fun e => c ((nI_ltW (by omega) (by omega)).mp e))]; rfl
  · funext j
    rw [scl_o (by omega)]
  · funext j
    rw [scl_o (by decide)]
  · funext j
    rw [scl_o (by decide)]
  · funext j
    rw [scl_o (by decide)]
  · rw [scl_k, if_pos (by omega), show 4 * o i + (k - 0) = 4 * o i + k by omega]
    exact a4 k hk
end
