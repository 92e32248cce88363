/-! THE CLASS'S ROWS OF PLACES: where keys differ, which row is less -/
theorem i64_1 (x : Int64) : x &&& 1 = 0 ↔ N x % 2 = 0 := by
  have e : N (x &&& 1) = N x % 2 := by
    rw [N_and, show N (1 : Int64) = 1 from rfl, Nat.and_one_is_mod]
  constructor
  · intro h
    rw [h, N_0] at e
    omega
  · intro h
    apply N_inj
    rw [e, N_0, h]
section
variable {F n : Nat} {sh : Nat → Nat × Nat} {z : St} {w v : D4}
theorem fd35 {q : Nat} (hq : q < 4) (hlo : ∀ i, i < q → w i = v i) (hne : w q ≠ v q) {ko : St → Int32 → Option (St × Int32)} : ∀ m t g, t + m = 64 → m < g → N (w q) / 2 ^ (64 - t) = N (v q) / 2 ^ (64 - t) → ∃ r, r < 256 ∧ fn_X9_firstDifference_L35 F sh n (nI q) (w q ^^^ v q) ko g z (nI t) = some (z, nI r) ∧ PtR (wdN w 4 0) (wdN v 4 0) (r + 1) := by
  intro m
  induction m with
  | zero =>
    intro t g h1 h2 h3
    have e : t = 64 := by omega
    subst e
    rw [Nat.sub_self, Nat.pow_zero, Nat.div_one, Nat.div_one] at h3
    exact absurd (N_inj h3) hne
  | succ m ih =>
    intro t g h1 h2 h3
    obtain ⟨g, rfl⟩ : ∃ q, g = q + 1 := ⟨g - 1, by omega⟩
    have n0 : ¬ (w q ^^^ v q) = 0 := fun e => hne (xor_0.mp e)
    have d2 : ∀ a : Nat, a / 2 ^ (64 - t) = a / 2 ^ (63 - t) / 2 := fun a => by
      rw [Nat.div_div_eq_div_mul, show 2 ^ (63 - t) * 2 = 2 ^ (64 - t) from by rw [show 64 - t = (63 - t) + 1 by omega, Nat.pow_succ]]
    rw [fn_X9_firstDifference_L35, if_neg (show ¬ (64 : Int32) ≤ nI t from fun e => by have := (nI_leW (a := 64) (b := t) (by omega) (by omega)).mp e; omega), if_neg n0]
    by_cases c : N (w q) / 2 ^ (63 - t) % 2 = N (v q) / 2 ^ (63 - t) % 2
    · rw [if_pos ((xor_b (by omega)).mpr c), show nI t + 1 = nI (t + 1) from nI_add t 1]
      refine ih (t + 1) g (by omega) (by omega) ?_
      rw [d2, d2] at h3
      rw [show 64 - (t + 1) = 63 - t by omega]
      omega
    · rw [if_neg (fun e => c ((xor_b (by omega)).mp e)), show (64 : Int32) = nI 64 from rfl, pk_mul, nI_add]
      refine ⟨q * 64 + t, by omega, rfl, by omega, by omega, ?_, ?_⟩
      · rw [show q * 64 + t + 1 - 1 = 64 * q + t by omega]
        exact (cut_q hq (by omega) hlo).mpr h3
      · rw [show q * 64 + t + 1 = 64 * q + (t + 1) by omega]
        intro e
        have := (cut_q hq (by omega) hlo).mp e
        rw [show 64 - (t + 1) = 63 - t by omega] at this
        exact c (by rw [this])
theorem fdf_t (hF : 100 ≤ F) (hL : Lay sh n z) {a b : Nat} (ha : a < 256) (hb : b < 256) (hw : ∀ k, k < 4 → z.2.1 78 (7 * a + k) = w k) (hv : ∀ k, k < 4 → z.2.1 78 (7 * b + k) = v k) : ∃ r, fn_X9_firstDifference F sh n z 73 (nI a) (nI b) = some (z, nI r) ∧ ((r = 256 ∧ wdN w 4 0 = wdN v 4 0) ∨ (r < 256 ∧ PtR (wdN w 4 0) (wdN v 4 0) (r + 1))) := by
  have key : ∀ m q g, q + m = 4 → m < g → (∀ i, i < q → w i = v i) → ∃ r, fn_X9_firstDifference_L2 F sh n 73 (nI a) (nI b) g z (nI q) = some (z, nI r) ∧ ((r = 256 ∧ wdN w 4 0 = wdN v 4 0) ∨ (r < 256 ∧ PtR (wdN w 4 0) (wdN v 4 0) (r + 1))) := by
    intro m
    induction m with
    | zero =>
      intro q g h1 h2 h3
      obtain ⟨g, rfl⟩ : ∃ q, g = q + 1 := ⟨g - 1, by omega⟩
      have e : q = 4 := by omega
      subst e
      refine ⟨256, ?_, .inl ⟨rfl, wdN_c 4 0 (fun i hi => by rw [Nat.zero_add]; exact h3 i hi)⟩⟩
      rw [fn_X9_firstDifference_L2, if_pos (by decide)]
      rfl
    | succ m ih =>
      intro q g h1 h2 h3
      obtain ⟨g, rfl⟩ : ∃ q, g = q + 1 := ⟨g - 1, by omega⟩
      have T := b_tree hL
      rw [fn_X9_firstDifference_L2, if_neg (show ¬ (4 : Int32) ≤ nI q from fun e => by have := (nI_leW (a := 4) (b := q) (by omega) (by omega)).mp e; omega), T.1, grd_true, T.2.2.2.1, lnk_s, lnk_s, show (7 : Int32) = nI 7 from rfl, pk_mul, pk_mul, nI_add, nI_add, Nat.mul_comm a 7, Nat.mul_comm b 7, lay_a hL 78 102 1792 (by decide) rfl, okI_nI (by omega) (by omega), grd_true, lay_a hL 78 102 1792 (by decide) rfl, okI_nI (by omega) (by omega), grd_true, nI_clamp (by omega), nI_clamp (by omega), hw q (by omega), hv q (by omega), lt_t]
      by_cases c : w q = v q
      · obtain ⟨F', eF⟩ : ∃ q, F = q + 1 := ⟨F - 1, by omega⟩
        obtain ⟨r, r1, r2⟩ := ih (q + 1) g (by omega) (by omega) (fun i hi => by
          by_cases e : i = q
          · rw [e]; exact c
          · exact h3 i (by omega))
        refine ⟨r, ?_, r2⟩
        have e35 : ∀ ko, fn_X9_firstDifference_L35 F sh n (nI q) (w q ^^^ v q) ko F z 0 = ko z (nI q + 1) := fun ko => by
          rw [xor_0.mpr c]
          conv => lhs; arg 7; rw [eF]
          rw [fn_X9_firstDifference_L35, if_neg (by decide), if_pos rfl]
          rfl
        rw [e35, show nI q + 1 = nI (q + 1) from nI_add q 1]
        exact r1
      · obtain ⟨r, r1, r2, r3⟩ := fd35 (F := F) (sh := sh) (n := n) (z := z) (ko := fun z9 q3 => fn_X9_firstDifference_L2 F sh n 73 (nI a) (nI b) g z9 q3) (show q < 4 by omega) h3 c 64 0 F (by omega) (by omega) (by
          rw [Nat.div_eq_of_lt (N_lt _), Nat.div_eq_of_lt (N_lt _)])
        exact ⟨r, r2, .inr ⟨r1, r3⟩⟩
  exact key 4 0 F (by omega) (by omega) (fun i hi => absurd hi (by omega))
theorem isb_t (hF : 100 ≤ F) (hL : Lay sh n z) {a b : Nat} (ha : a < 256) (hb : b < 256) (hw : ∀ k, k < 7 → z.2.1 78 (7 * a + k) = w k) (hv : ∀ k, k < 7 → z.2.1 78 (7 * b + k) = v k) : fn_X9_isBelow F sh n z 73 (nI a) (nI b) = some (z, if wdN w 7 0 < wdN v 7 0 then 1 else 0) := by
  have key : ∀ m k g, k + m = 7 → m < g → fn_X9_isBelow_L2 F sh n 73 (nI a) (nI b) g z (nI k) = some (z, if wdN w m k < wdN v m k then 1 else 0) := by
    intro m
    induction m with
    | zero =>
      intro q g h1 h2
      obtain ⟨g, rfl⟩ : ∃ q, g = q + 1 := ⟨g - 1, by omega⟩
      have e : q = 7 := by omega
      subst e
      rw [fn_X9_isBelow_L2, if_pos (by decide)]
      rfl
    | succ m ih =>
      intro q g h1 h2
      obtain ⟨g, rfl⟩ : ∃ q, g = q + 1 := ⟨g - 1, by omega⟩
      have T := b_tree hL
      have a7 : nI a * 7 = nI (7 * a) := by rw [show (7 : Int32) = nI 7 from rfl, pk_mul, Nat.mul_comm]
      have b7 : nI b * 7 = nI (7 * b) := by rw [show (7 : Int32) = nI 7 from rfl, pk_mul, Nat.mul_comm]
      rw [fn_X9_isBelow_L2, if_neg (show ¬ (7 : Int32) ≤ nI q from fun e => by have := (nI_leW (a := 7) (b := q) (by omega) (by omega)).mp e; omega), T.1, grd_true, T.2.2.2.1, lnk_s, a7, nI_add, lay_a hL 78 102 1792 (by decide) rfl, okI_nI (by omega) (by omega), grd_true, nI_clamp (by omega), hw q (by omega), lt_t, lnk_s, b7, nI_add, lay_a hL 78 102 1792 (by decide) rfl, okI_nI (by omega) (by omega), grd_true, nI_clamp (by omega), hv q (by omega), lt_t]
      by_cases c : w q = v q
      · rw [if_pos c, show nI q + 1 = nI (q + 1) from nI_add q 1, ih (q + 1) g (by omega) (by omega)]
        by_cases d : wdN w m (q + 1) < wdN v m (q + 1)
        · rw [if_pos d, if_pos ((wdN_l2 c).mpr d)]
        · rw [if_neg d, if_neg (fun e => d ((wdN_l2 c).mp e))]
      · rw [if_neg c, below_t, cal_s]
        by_cases d : N (w q) < N (v q)
        · rw [if_pos d, if_pos (wdN_l1 d)]; rfl
        · have d2 : N (v q) < N (w q) := by
            have : N (w q) ≠ N (v q) := fun e => c (N_inj e)
            omega
          have := wdN_l1 (m := m) d2
          rw [if_neg d, if_neg (by omega)]; rfl
  exact key 7 0 F (by omega) (by omega)
end
/-! THE CLASS CLIMBS -/
/-- places in order, row by row -/
def CSt (z : St) (S : List Plc) (o : Nat → Nat) : Prop := z.1 73 7 = nI S.length ∧ S.length ≤ 256 ∧ ∀ i x, S[i]? = some x → z.1 81 i = nI (o i) ∧ o i < 256 ∧ (∀ k, k < 4 → z.2.1 78 (7 * o i + k) = x.1 k) ∧ ∀ k, k < 4 → z.2.1 79 (4 * o i + k) = lfP x k
/-- left halves that wait -/
def CWt (z : St) (st : List (Nat × D4)) : Prop := z.1 73 12 = nI st.length ∧ ∀ s e, st[s]? = some e → z.1 85 s = nI e.1 ∧ e.1 ≤ 256 ∧ ∀ k, k < 4 → z.2.1 84 (4 * s + k) = e.2 k
def FCr (y y' : St) : Prop := y'.2.2 = y.2.2 ∧ (∀ k, ¬ (73 ≤ k ∧ k ≤ 85) → y'.1 k = y.1 k ∧ y'.2.1 k = y.2.1 k) ∧ y'.1 73 1 = y.1 73 1
theorem FCr.rfl' {y : St} : FCr y y := ⟨rfl, fun _ _ => ⟨rfl, rfl⟩, rfl⟩
theorem FCr.trans {y y1 y2 : St} (h : FCr y y1) (h' : FCr y1 y2) : FCr y y2 := ⟨h'.1.trans h.1, fun k hk => ⟨(h'.2.1 k hk).1.trans (h.2.1 k hk).1, (h'.2.1 k hk).2.trans (h.2.1 k hk).2⟩, h'.2.2.trans h.2.2⟩
theorem FTr.fc {z z' : St} {kd : Nat} (h : FTr z z' kd) (hk : 73 ≤ kd) (hk2 : kd ≤ 85) : FCr z z' := ⟨h.1, fun k q => ⟨h.2.1 k (by omega) (by omega) (by omega), h.2.2 k (by omega) (by omega)⟩, by rw [h.2.1 73 (by decide) (by decide) (by decide)]⟩
theorem CSt.of {z z' : St} {S : List Plc} {o : Nat → Nat} (h : CSt z S o) (e1 : z'.1 73 7 = z.1 73 7) (e2 : z'.1 81 = z.1 81) (e3 : z'.2.1 78 = z.2.1 78) (e4 : z'.2.1 79 = z.2.1 79) : CSt z' S o := by
  unfold CSt
  rw [e1, e2, e3, e4]
  exact h
theorem CWt.of {z z' : St} {st : List (Nat × D4)} (h : CWt z st) (e1 : z'.1 73 12 = z.1 73 12) (e2 : z'.1 85 = z.1 85) (e3 : z'.2.1 84 = z.2.1 84) : CWt z' st := by
  unfold CWt
  rw [e1, e2, e3]
  exact h
/-- a state of climbing: d is what is now -/
def KSt (z0 z : St) (S : List Plc) (o : Nat → Nat) (st : List (Nat × D4)) (d : D4) : Prop := FCr z0 z ∧ CSt z S o ∧ CWt z st ∧ ∀ k, k < 4 → z.2.1 83 k = d k
section
variable {F n : Nat} {sh : Nat → Nat × Nat} {z0 z z1 : St} {S : List Plc} {o : Nat → Nat} {st : List (Nat × D4)} {d : D4} {l : List Int32}
theorem KSt.ft {z' : St} {d' : D4} (h : KSt z0 z S o st d) (f : FTr z z' 83) (hd : ∀ k, k < 4 → z'.2.1 83 k = d' k) : KSt z0 z' S o st d' := ⟨h.1.trans (f.fc (by decide) (by decide)), h.2.1.of (by rw [f.2.1 73 (by decide) (by decide) (by decide)]) (f.2.1 81 (by decide) (by decide) (by decide)) (f.2.2 78 (by decide) (by decide)) (f.2.2 79 (by decide) (by decide)), h.2.2.1.of (by rw [f.2.1 73 (by decide) (by decide) (by decide)]) (f.2.1 85 (by decide) (by decide) (by decide)) (f.2.2 84 (by decide) (by decide)), hd⟩
theorem b214 (hF : 100 ≤ F) (hL : Lay sh n z) (W : WCd sh n z z1 l) (hl : l.length < 2 ^ 30) {L : Nat} {ko : St → Int32 → Option (St × Unit)} : ∃ z3, fn_X9_climb_B214 F sh n 73 (nI (L + 1)) ko z1 = ko z3 (nI L) ∧ FTr z z3 83 ∧ ∀ k, k < 4 → z3.2.1 83 k = hB l k := by
  obtain ⟨z2, a1, a2, a3⟩ := W.fin (F := F) (by omega) hl
  obtain ⟨z3, b1, b2, b3, _⟩ := cpy_t (F := F) (by omega) hL a2 a3 83 0 4 (by decide) rfl (by omega) (by omega) (by decide)
  have l1 := W.lay hL
  have l2 : Lay sh n z2 := hL.of a3.2.2
  refine ⟨z3, ?_, b2, fun k hk => by have := b3 k hk; rw [Nat.zero_add] at this; exact this⟩
  unfold fn_X9_climb_B214
  rw [(b_tree l1).2.2.1, lnk_s, (b_digt l1).1, grd_true, a1, cal_s, (b_tree l2).2.2.1, lnk_s, l2.2.2 73 9 83 rfl, lnk_s, (b_digt l2).1, grd_true, show (0 : Int32) = nI 0 from rfl, b1, cal_s, show nI (L + 1) + (-1) = nI L from by rw [← Int32.sub_eq_add_neg]; exact (pk_sub (a := L + 1) (b := 1) (by omega)).trans (by rw [show L + 1 - 1 = L by omega])]
/-- a hash with nothing on the right -/
theorem b120_0 (hF : 100 ≤ F) (hL : Lay sh n z) (h : KSt z0 z S o st d) {L : Nat} {p : Int32} {ko : St → Int32 → Option (St × Unit)} : ∃ z3, fn_X9_climb_B120 F sh n 73 0 (nI (L + 1)) ko z p = ko z3 (nI L) ∧ KSt z0 z3 S o st (ndH d (fun _ => 0)) := by
  obtain ⟨z1, a1, w1⟩ := wc_start (F := F) hL
  obtain ⟨z2, a2, w2⟩ := w1.put (F := F) (by omega) (x := 1) (c := 1) rfl
  obtain ⟨z3, a3, w3⟩ := w2.four (F := F) (by omega) hL 83 0 4 (by decide) rfl (by omega) (by omega) (by decide) (d := d) (fun k hk => by rw [Nat.zero_add]; exact h.2.2.2 k hk)
  obtain ⟨z4, a4, w4⟩ := w3.nth (F := F) (by omega) hL
  obtain ⟨z5, a5, a6, a7⟩ := b214 (F := F) (L := L) (ko := fun z9 q4 => ko z9 q4) hF hL w4 (by simp [List.length_append, qB_len])
  refine ⟨z5, ?_, h.ft a6 a7⟩
  have l1 := w1.lay hL
  have l2 := w2.lay hL
  have l3 := w3.lay hL
  unfold fn_X9_climb_B120
  rw [(b_tree hL).2.2.1, lnk_s, (b_digt hL).1, grd_true, a1, cal_s, (b_tree l1).2.2.1, lnk_s, (b_digt l1).1, grd_true, a2, cal_s, if_pos rfl, (b_tree l2).2.2.1, lnk_s, l2.2.2 73 9 83 rfl, lnk_s, (b_digt l2).1, grd_true, show (0 : Int32) = nI 0 from rfl, a3, cal_s, a4, cal_s]
  exact a5
/-- a hash with nothing on the left -/
theorem b120_1 (hF : 100 ≤ F) (hL : Lay sh n z) (h : KSt z0 z S o st d) {L : Nat} {v : Int64} (hv : v ≠ 0) {ko : St → Int32 → Option (St × Unit)} : ∃ z3, fn_X9_climb_B119 F sh n 73 v (nI (L + 1)) ko z = ko z3 (nI L) ∧ KSt z0 z3 S o st (ndH (fun _ => 0) d) := by
  obtain ⟨z1, a1, w1⟩ := wc_start (F := F) hL
  obtain ⟨z2, a2, w2⟩ := w1.put (F := F) (by omega) (x := 1) (c := 1) rfl
  obtain ⟨z3, a3, w3⟩ := w2.nth (F := F) (by omega) hL
  obtain ⟨z4, a4, w4⟩ := w3.four (F := F) (by omega) hL 83 0 4 (by decide) rfl (by omega) (by omega) (by decide) (d := d) (fun k hk => by rw [Nat.zero_add]; exact h.2.2.2 k hk)
  obtain ⟨z5, a5, a6, a7⟩ := b214 (F := F) (L := L) (ko := fun z9 q4 => ko z9 q4) hF hL w4 (by simp [List.length_append, qB_len])
  refine ⟨z5, ?_, h.ft a6 a7⟩
  have l1 := w1.lay hL
  have l2 := w2.lay hL
  have l3 := w3.lay hL
  unfold fn_X9_climb_B119 fn_X9_climb_B120
  rw [(b_tree hL).2.2.1, lnk_s, (b_digt hL).1, grd_true, a1, cal_s, (b_tree l1).2.2.1, lnk_s, (b_digt l1).1, grd_true, a2, cal_s, if_neg hv, if_pos rfl, a3, cal_s]
  unfold fn_X9_climb_B202
  rw [(b_tree l3).2.2.1, lnk_s, l3.2.2 73 9 83 rfl, lnk_s, (b_digt l3).1, grd_true, show (0 : Int32) = nI 0 from rfl, a4, cal_s]
  exact a5
theorem WCd.si73 (W : WCd sh n z z1 l) (j : Nat) (x : Int32) : WCd sh n (si z 73 j x) (si z1 73 j x) l := by
  obtain ⟨⟨D, hr, hH, hf, ht, hw, g, hg⟩, f1, f2, f3⟩ := W
  refine ⟨⟨D, hr, fun i hi => by rw [si_ok (by decide)]; exact hH i hi, by rw [si_ok (by decide)]; exact hf, ht, fun t h => by rw [si_ok (by decide)]; exact hw t h, g, by rw [si_ok (by decide)]; exact hg⟩, fun k k1 k2 k3 => ?_, f2, f3⟩
  by_cases c : k = 73
  · subst c
    funext i
    rw [si_1, si_1, if_pos rfl, if_pos rfl, f1 73 k1 k2 k3]
  · rw [si_ok c, si_ok c, f1 k k1 k2 k3]
/-- a hash with the left half that waits -/
theorem b120_2 (hF : 100 ≤ F) (hL : Lay sh n z) {l0 : Nat} {e : D4} (h : KSt z0 z S o (st ++ [(l0, e)]) d) (hs : st.length ≤ 256) {L : Nat} {v : Int64} (hv : v ≠ 0) {ko : St → Int32 → Option (St × Unit)} : ∃ z3, fn_X9_climb_B120 F sh n 73 v (nI (L + 1)) ko z 1 = ko z3 (nI L) ∧ KSt z0 z3 S o st (ndH e d) := by
  have hc : z.1 73 12 - 1 = nI st.length := by
    rw [h.2.2.1.1, List.length_append, List.length_singleton]
    exact (pk_sub (a := st.length + 1) (b := 1) (by omega)).trans (by rw [show st.length + 1 - 1 = st.length by omega])
  have he := (h.2.2.1.2 st.length (l0, e) (by simp)).2.2
  have h' : KSt z0 (si z 73 12 (nI st.length)) S o st d := by
    refine ⟨h.1.trans ⟨rfl, fun k q => ⟨si_ok (by omega), rfl⟩, si_oj (by decide)⟩, h.2.1.of (si_oj (by decide)) (si_ok (by decide)) rfl rfl, ⟨si_ss, fun s x hx => ?_⟩, h.2.2.2⟩
    have hlt : s < st.length := by
      obtain ⟨q, _⟩ := List.getElem?_eq_some_iff.mp hx
      exact q
    have := h.2.2.1.2 s x (by rw [List.getElem?_append_left hlt]; exact hx)
    rw [si_ok (by decide)]
    exact this
  have hL' : Lay sh n (si z 73 12 (nI st.length)) := hL.of rfl
  obtain ⟨z1, a1, w1⟩ := wc_start (F := F) hL
  obtain ⟨z2, a2, w2⟩ := w1.put (F := F) (by omega) (x := 1) (c := 1) rfl
  have w2' := w2.si73 12 (nI st.length)
  obtain ⟨z3, a3, w3⟩ := w2'.four (F := F) (by omega) hL' 84 (4 * st.length) 1028 (by decide) rfl (by omega) (by omega) (by decide) (d := e) he
  obtain ⟨z4, a4, w4⟩ := w3.four (F := F) (by omega) hL' 83 0 4 (by decide) rfl (by omega) (by omega) (by decide) (d := d) (fun k hk => by rw [Nat.zero_add]; exact h'.2.2.2 k hk)
  obtain ⟨z5, a5, a6, a7⟩ := b214 (F := F) (L := L) (ko := fun z9 q4 => ko z9 q4) hF hL' w4 (by simp [List.length_append, qB_len])
  refine ⟨z5, ?_, h'.ft a6 a7⟩
  have l1 := w1.lay hL
  have l2 := w2'.lay hL'
  have l3 := w3.lay hL'
  have e73 : z2.1 73 12 - 1 = nI st.length := by rw [w2.2.1 73 (by decide) (by decide) (by decide)]; exact hc
  unfold fn_X9_climb_B120
  rw [(b_tree hL).2.2.1, lnk_s, (b_digt hL).1, grd_true, a1, cal_s, (b_tree l1).2.2.1, lnk_s, (b_digt l1).1, grd_true, a2, cal_s, if_neg hv, if_neg (by decide), e73, lt_t, (b_tree l2).2.2.1, lnk_s, l2.2.2 73 10 84 rfl, lnk_s, (b_digt l2).1, grd_true, si_ss, show (nI st.length * 4 : Int32) = nI (4 * st.length) from by rw [show (4 : Int32) = nI 4 from rfl, pk_mul, Nat.mul_comm], a3, cal_s]
  unfold fn_X9_climb_B202
  rw [(b_tree l3).2.2.1, lnk_s, l3.2.2 73 9 83 rfl, lnk_s, (b_digt l3).1, grd_true, show (0 : Int32) = nI 0 from rfl, a4, cal_s]
  exact a5
end
