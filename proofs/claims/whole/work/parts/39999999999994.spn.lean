/-! THE CLASS'S LOOKER: calls -/
def Fr3 (z z' : St) : Prop := z'.2.1 63 = z.2.1 63 ∧ z'.2.1 64 = z.2.1 64
def Fr4 (z z' : St) : Prop := z'.2.1 63 = z.2.1 63 ∧ z'.2.1 64 = z.2.1 64 ∧ z'.1 62 8 = z.1 62 8
theorem Fr3.rfl' {z : St} : Fr3 z z := ⟨rfl, rfl⟩
theorem Fr3.trans {z z' z'' : St} (f : Fr3 z z') (g : Fr3 z' z'') : Fr3 z z'' := ⟨g.1.trans f.1, g.2.trans f.2⟩
theorem Fr4.rfl' {z : St} : Fr4 z z := ⟨rfl, rfl, rfl⟩
theorem Fr4.trans {z z' z'' : St} (f : Fr4 z z') (g : Fr4 z' z'') : Fr4 z z'' := ⟨g.1.trans f.1, g.2.1.trans f.2.1, g.2.2.trans f.2.2⟩
/-- what was taken still lies above the stack -/
def ArC (z : St) (D nn : Nat) (A : Nat → SS) (ns : Nat) : Prop := z.1 62 8 = nI D ∧ D + nn ≤ 64 ∧ ∀ k, k < nn → z.2.1 63 (D + k) = tL (A k).1 ∧ z.2.1 64 (D + k) = (A k).2.1 ∧ TBr ns (A k).1
theorem ArC.f4 {z z' : St} {D nn ns : Nat} {A : Nat → SS} (h : ArC z D nn A ns) (f : Fr4 z z') : ArC z' D nn A ns := ⟨f.2.2.trans h.1, h.2.1, fun k hk => by rw [f.1, f.2.1]; exact h.2.2 k hk⟩
theorem nd_and (a b : Bool) (v : Nat) {α : Type} (k : Px α) : (nd_ a v >>= fun _ => nd_ b v >>= fun _ => k) = (nd_ (a && b) v >>= fun _ => k) := by cases a <;> cases b <;> rfl
section
variable {F n : Nat} {sh : Nat → Nat × Nat} {z z' : St} {kp f w ns : Nat} {ls : List Ty} {L M : Lks} {U : Md}
theorem CB.fail_r (h : CB sh n z kp f w) {v : Int32} (q : fn_X3_fail F sh n z 62 v = some (z', ())) : Fr4 z z' := by
  unfold fn_X3_fail at q
  rw [h.o3, grd_true] at q
  by_cases c : z.1 62 1 = 0
  · rw [if_pos c, lt_t] at q
    cases q
    exact ⟨rfl, rfl, by rw [si_oj (by omega)]⟩
  · rw [if_neg c] at q
    cases q
    exact Fr4.rfl'
theorem CB.take_r (h : CB sh n z kp f w) {x : Int64} (q : fn_X3_take F sh n z 62 = some (z', x)) : Fr3 z z' := by
  have h' := h
  obtain ⟨a1, a2, a3, a4, d, a5, a6, a7⟩ := h
  unfold fn_X3_take at q
  rw [h'.o3, grd_true, a5] at q
  by_cases c : d = 0
  · rw [if_pos (by rw [c]; rfl)] at q
    cases e : fn_X3_fail F sh n z 62 1 with
    | none => rw [e] at q; cases q
    | some p =>
      obtain ⟨z1, u⟩ := p
      rw [e, cal_s] at q
      cases q
      have := h'.fail_r e
      exact ⟨this.1, this.2.1⟩
  · obtain ⟨m, em⟩ : ∃ m, d = m + 1 := ⟨d - 1, by omega⟩
    have e1 : nI d - 1 = nI m := by rw [em, ← nI_1, Int32.add_sub_cancel]
    have ok : ∀ k c, shF k = (c, 64) → k < 513 → okA sh n k c (nI m) = true := fun k c ee hk => by rw [lay_a a1 k c 64 hk ee]; exact okI_nI (by omega) (by omega)
    have cp : (nI m).toNatClampNeg = m := nI_clamp (by omega)
    have v1 : (si z 62 8 (nI m)).1 62 8 = nI m := si_ss
    have oz : okZ (z.1 65 m) = true := a7 m (by omega)
    rw [if_neg (nI_ne0 (by omega) (by omega)), e1, lt_t, si_3, a1.2.2 62 6 64 rfl, lnk_s, v1, ok 64 102 rfl (by omega), grd_true, lt_t, sl_3, si_3, a1.2.2 62 7 65 rfl, lnk_s, sl_1, v1, ok 65 103 rfl (by omega), grd_true, cp, si_ok (show (65 : Nat) ≠ 62 by omega), oz, grd_true, lt_t, si_3, sl_3, si_3, a1.2.2 62 5 63 rfl, lnk_s, si_oj (show (8 : Nat) ≠ 15 by omega), sl_1, v1, ok 63 102 rfl (by omega), grd_true] at q
    cases q
    exact ⟨by rw [si_2]; funext j; rw [sl_ok (by omega), si_2], by rw [si_2]; funext j; rw [sl_ok (by omega), si_2]⟩
theorem CB.only_r (h : CB sh n z kp f w) {x : Int64} (q : fn_X3_takeOnly F sh n z 62 x = some (z', ())) : Fr3 z z' := by
  unfold fn_X3_takeOnly at q
  rw [h.o3, grd_true] at q
  cases e : fn_X3_take F sh n z 62 with
  | none => rw [e] at q; cases q
  | some p =>
    obtain ⟨z1, y⟩ := p
    have f1 := h.take_r e
    rw [e, cal_s] at q
    by_cases c : y = x
    · rw [if_pos c] at q; cases q; exact f1
    · rw [if_neg c] at q
      cases e2 : fn_X3_fail F sh n z1 62 3 with
      | none => rw [e2] at q; cases q
      | some p2 =>
        obtain ⟨z2, u⟩ := p2
        rw [e2, cal_s] at q
        cases q
        unfold fn_X3_fail at e2
        rw [h.o3, grd_true] at e2
        by_cases d : z1.1 62 1 = 0
        · rw [if_pos d, lt_t] at e2
          cases e2
          exact ⟨f1.1, f1.2⟩
        · rw [if_neg d] at e2
          cases e2
          exact f1
theorem CR.only_r {r : Px Lks} (h : CR sh n z kp f ls ns r) {x : Int64} (q : fn_X3_takeOnly F sh n z 62 x = some (z', ())) : Fr3 z z' := by
  cases r with
  | error w => exact h.2.only_r q
  | ok M => exact (CK.cb h).only_r q
theorem CR.failX {r : Px Lks} (h : CR sh n z kp f ls ns r) {v : Nat} (hv : v < 16) (h0 : 0 < v) : ∃ z', fn_X3_fail F sh n z 62 (nI v) = some (z', ()) ∧ CR sh n z' kp f ls ns (r >>= fun _ => .error v) ∧ FrQc z z' ∧ Fr4 z z' := by
  cases r with
  | error w => exact ⟨z, h.2.fail_e h.1 _, h, FrQc.rfl', Fr4.rfl'⟩
  | ok M =>
    obtain ⟨z1, q1, q2, q3⟩ := CB.fail (F := F) (CK.cb h) hv
    exact ⟨z1, q1, ⟨h0, q2⟩, q3, (CK.cb h).fail_r q1⟩
theorem CR.lay {r : Px Lks} (h : CR sh n z kp f ls ns r) : Lay sh n z := by
  cases r with
  | error w => exact h.2.1
  | ok M => exact (CK.cb h).1
theorem meetC (hF : 300 ≤ F) (hL : Lay sh n z) {D nn : Nat} {A : Nat → SS} (h : ArC z D nn A ns) {k : Nat} (hk : k < nn) : fn_X3_meetsOther F sh n z 62 (nI (D + k)) (nI nn) = some (z, bI (!(List.range nn).all (fun j => j == k || !mtB (A j).2.1 (A k).2.1))) := by
  obtain ⟨h1, h2, h3⟩ := h
  have o3 : okO sh n 62 3 = true := lay_o hL 62 3 0 (by decide) rfl
  have ok : ∀ p, p < 64 → okA sh n 64 102 (nI p) = true := fun p hp => by rw [lay_a hL 64 102 64 (by omega) rfl]; exact okI_nI (by omega) (by omega)
  have lp : ∀ r p g, p + r = nn → r < g → fn_X3_meetsOther_L5 F sh n 62 (nI nn) (nI (D + k)) g z (nI (D + p)) = some (z, bI (!(List.range' p r).all (fun j => j == k || !mtB (A j).2.1 (A k).2.1))) := by
    intro r
    induction r with
    | zero =>
      intro p g ep hg
      obtain ⟨g, rfl⟩ : ∃ q, g = q + 1 := ⟨g - 1, by omega⟩
      unfold fn_X3_meetsOther_L5
      rw [h1, nI_add, if_pos ((nI_leI (by omega) (by omega)).mpr (by omega))]
      rfl
    | succ r ih =>
      intro p g ep hg
      obtain ⟨g, rfl⟩ : ∃ q, g = q + 1 := ⟨g - 1, by omega⟩
      have nx := ih (p + 1) g (by omega) (by omega)
      have nx' : fn_X3_meetsOther_B40 F sh n (nI (D + p)) (fun z9 q3 => fn_X3_meetsOther_L5 F sh n 62 (nI nn) (nI (D + k)) g z9 q3) z = some (z, bI (!(List.range' (p + 1) r).all (fun j => j == k || !mtB (A j).2.1 (A k).2.1))) := by
        unfold fn_X3_meetsOther_B40
        rw [nI_1]; exact nx
      conv => lhs; unfold fn_X3_meetsOther_L5
      rw [h1, nI_add, if_neg (fun q => by have := (nI_leI (by omega) (by omega)).mp q; omega), rng_a]
      by_cases c : p = k
      · rw [if_pos (by rw [c]), nx', beq_iff_eq.mpr c, Bool.true_or, Bool.true_and]
      · rw [if_neg (fun q => c (by have := (nI_ij (by omega) (by omega)).mp q; omega)), hL.2.2 62 6 64 rfl, lnk_s, ok _ (by omega), grd_true, lnk_s, ok _ (by omega), grd_true, nI_clamp (by omega), nI_clamp (by omega), (h3 p (by omega)).2.1, (h3 k hk).2.1, beq_eq_false_iff_ne.mpr c, Bool.false_or]
        cases m : mtB (A p).2.1 (A k).2.1 with
        | false => rw [if_pos (mtB_0.mpr m), nx']; rfl
        | true => rw [if_neg (fun q => by have := mtB_0.mp q; rw [m] at this; exact absurd this (by simp))]; rfl
  unfold fn_X3_meetsOther
  rw [o3, grd_true, h1, lt_t]
  have e := lp nn 0 F (by omega) (by omega)
  rw [← List.range_eq_range'] at e
  exact e
/-- one argument, if it may write: alone, and with nothing that meets it -/
theorem CR.arg (hF : 300 ≤ F) {r : Px Lks} (h : CR sh n z kp f ls ns r) (hr : ∀ M', r = .ok M' → M' = M) {D nn : Nat} {A : Nat → SS} (ha : ArC z D nn A ns) {k : Nat} (hk : k < nn) {B : St → Option (St × Unit)} : ∃ z2, cal (fn_X3_isSole F sh n z 62 (A k).2.1) (fun z_77 r_78 => if (r_78 : Int32) = 0 then cal (fn_X3_fail F sh n z_77 62 6) (fun z_85 _ => B z_85) else cal (fn_X3_meetsOther F sh n z_77 62 (nI (D + k)) (nI nn)) (fun z_88 r_89 => if (r_89 : Int32) = 0 then B z_88 else cal (fn_X3_fail F sh n z_88 62 6) (fun z_85 _ => B z_85))) = B z2 ∧ CR sh n z2 kp f ls ns (r >>= fun M' => nd_ (lSole ls M (A k).2.1 && (List.range nn).all (fun j => j == k || !mtB (A j).2.1 (A k).2.1)) 6 >>= fun _ => .ok M') ∧ FrQc z z2 ∧ Fr4 z z2 := by
  obtain ⟨z3, f1, f2, f3, f4⟩ := h.failX (F := F) (v := 6) (by omega) (by omega)
  have f1' : fn_X3_fail F sh n z 62 6 = some (z3, ()) := f1
  obtain ⟨s1, s2⟩ := h.sole_c (F := F) hF (x := (A k).2.1)
  cases er : r with
  | error w =>
    obtain ⟨b, eb⟩ := s2 w er
    rw [er] at h
    have e : fn_X3_fail F sh n z 62 6 = some (z, ()) := h.2.fail_e h.1 _
    rw [eb, cal_s, e, cal_s, meetC hF h.lay ha hk, cal_s, e, cal_s]
    refine ⟨z, ?_, h, FrQc.rfl', Fr4.rfl'⟩
    by_cases c : b = 0
    · rw [if_pos c]
    · rw [if_neg c]
      cases (!(List.range nn).all (fun j => j == k || !mtB (A j).2.1 (A k).2.1)) with
      | false => rw [if_pos (show bI false = 0 from rfl)]
      | true => rw [if_neg (show ¬ bI true = 0 from one0)]
  | ok M' =>
    have eM := hr M' er
    subst eM
    rw [s1 M' er, cal_s, f1', cal_s, meetC hF h.lay ha hk, cal_s, ok_b]
    rw [er] at h f2
    cases e1 : lSole ls M' (A k).2.1 with
    | false =>
      rw [if_pos (show bI false = 0 from rfl)]
      exact ⟨z3, rfl, f2, f3, f4⟩
    | true =>
      rw [if_neg (show ¬ bI true = 0 from one0), Bool.true_and]
      cases (List.range nn).all (fun j => j == k || !mtB (A j).2.1 (A k).2.1) with
      | true => rw [if_pos (show bI (!true) = 0 from rfl)]; exact ⟨z, rfl, h, FrQc.rfl', Fr4.rfl'⟩
      | false => rw [if_neg (show ¬ bI (!false) = 0 from one0), f1', cal_s]; exact ⟨z3, rfl, f2, f3, f4⟩
theorem flt_a (xs : List SS) (s : SS) : (xs ++ [s]).filter (fun s => hdT s.1 == 9) = xs.filter (fun s => hdT s.1 == 9) ++ (if hdT s.1 = 9 then [s] else []) := by
  rw [List.filter_append]
  by_cases c : hdT s.1 = 9
  · rw [if_pos c, List.filter_cons_of_pos (by simpa using c), List.filter_nil]
  · rw [if_neg c, List.filter_cons_of_neg (by simpa using c), List.filter_nil]
theorem e101 (hF : 300 ≤ F) {D nn a : Nat} {A : Nat → SS} {p18 : Int32} : ∀ r k g z1 (rr : Px Lks), k + r = nn → r < g → CR sh n z1 kp f ls ns rr → (∀ M', rr = .ok M' → M' = M) → ArC z1 D nn A ns → ∃ z2 g', fn_X3_enter_L101 F sh n 62 (nI nn) p18 (nI a) g z1 (orO ((List.range k).map A)) (orO (((List.range k).map A).filter (fun s => hdT s.1 == 9))) (nI (D + k)) = fn_X3_enter_L101 F sh n 62 (nI nn) p18 (nI a) (g' + 1) z2 (orO ((List.range nn).map A)) (orO (((List.range nn).map A).filter (fun s => hdT s.1 == 9))) (nI (D + nn)) ∧ CR sh n z2 kp f ls ns (rr >>= fun M' => nd_ ((List.range' k r).all (argG ls M nn A)) 6 >>= fun _ => .ok M') ∧ FrQc z1 z2 ∧ Fr4 z1 z2 := by
  intro r
  induction r with
  | zero =>
    intro k g z1 rr ek hg T hr ha
    obtain ⟨g, rfl⟩ : ∃ q, g = q + 1 := ⟨g - 1, by omega⟩
    have ek' : k = nn := by omega
    subst ek'
    refine ⟨z1, g, rfl, ?_, FrQc.rfl', Fr4.rfl'⟩
    cases rr <;> exact T
  | succ r ih =>
    intro k g z1 rr ek hg T hr ha
    obtain ⟨g, rfl⟩ : ∃ q, g = q + 1 := ⟨g - 1, by omega⟩
    have ha' := ha
    obtain ⟨h1, h2, h3⟩ := ha
    have hk : k < nn := by omega
    obtain ⟨t1, t2, t3⟩ := h3 k hk
    have hL := T.lay
    have ok63 : ∀ z9 : St, okA sh n 63 102 (nI (D + k)) = true := fun _ => by rw [lay_a hL 63 102 64 (by omega) rfl]; exact okI_nI (by omega) (by omega)
    have ok64 : okA sh n 64 102 (nI (D + k)) = true := by rw [lay_a hL 64 102 64 (by omega) rfl]; exact okI_nI (by omega) (by omega)
    have cp : (nI (D + k)).toNatClampNeg = D + k := nI_clamp (by omega)
    -- the next turn
    have nx : ∀ z2 (rr2 : Px Lks) (y : Int64), CR sh n z2 kp f ls ns rr2 → (∀ M', rr2 = .ok M' → M' = M) → FrQc z1 z2 → Fr4 z1 z2 → y = orO (((List.range (k + 1)).map A).filter (fun s => hdT s.1 == 9)) → ∃ z3 g', fn_X3_enter_B167 F sh n 62 (nI (D + k)) (orO ((List.range k).map A)) (fun z9 q4 q6 q8 => fn_X3_enter_L101 F sh n 62 (nI nn) p18 (nI a) g z9 q4 q6 q8) z2 y = fn_X3_enter_L101 F sh n 62 (nI nn) p18 (nI a) (g' + 1) z3 (orO ((List.range nn).map A)) (orO (((List.range nn).map A).filter (fun s => hdT s.1 == 9))) (nI (D + nn)) ∧ CR sh n z3 kp f ls ns (rr2 >>= fun M' => nd_ ((List.range' (k + 1) r).all (argG ls M nn A)) 6 >>= fun _ => .ok M') ∧ FrQc z1 z3 ∧ Fr4 z1 z3 := fun z2 rr2 y T2 hr2 fz f4 ey => by
      have a2 : ArC z2 D nn A ns := ha'.f4 f4
      obtain ⟨z3, g', s1, s2, s3, s4⟩ := ih (k + 1) g z2 rr2 (by omega) (by omega) T2 hr2 a2
      refine ⟨z3, g', ?_, s2, fz.trans s3, f4.trans s4⟩
      rw [← s1]
      unfold fn_X3_enter_B167
      rw [T2.lay.2.2 62 6 64 rfl, lnk_s, ok64, grd_true, lt_t, cp, (a2.2.2 k hk).2.1, nI_1, ey, rngm, orO_a]
      rfl
    conv => enter [1, z2, 1, g', 1, 1]; unfold fn_X3_enter_L101
    rw [h1, nI_add, if_neg (fun q => by have := (nI_leI (by omega) (by omega)).mp q; omega), hL.2.2 62 5 63 rfl, lnk_s, ok63 z1, grd_true, cp, t1, writesC_t hF t3.1, cal_s]
    by_cases c : hdT (A k).1 = 9
    · rw [show (hdT (A k).1 == 9) = true from beq_iff_eq.mpr c, if_neg (show ¬ bI true = 0 from one0), hL.2.2 62 6 64 rfl, lnk_s, ok64, grd_true, t2]
      obtain ⟨z2, q1, q2, q3, q4⟩ := T.arg (F := F) hF hr ha' hk (B := fun z => fn_X3_enter_B155 F sh n 62 (nI (D + k)) (orO (((List.range k).map A).filter (fun s => hdT s.1 == 9))) (orO ((List.range k).map A)) (fun z9 q4 q6 q8 => fn_X3_enter_L101 F sh n 62 (nI nn) p18 (nI a) g z9 q4 q6 q8) z)
      unfold fn_X3_enter_B149
      rw [q1]
      unfold fn_X3_enter_B155
      have a2 : ArC z2 D nn A ns := ha'.f4 q4
      rw [q2.lay.2.2 62 6 64 rfl, lnk_s, ok64, grd_true, lt_t, cp, (a2.2.2 k hk).2.1]
      have hr2 : ∀ M', (rr >>= fun M' => nd_ (lSole ls M (A k).2.1 && (List.range nn).all (fun j => j == k || !mtB (A j).2.1 (A k).2.1)) 6 >>= fun _ => .ok M') = .ok M' → M' = M := fun M' e => by
        cases er : rr with
        | error w => rw [er] at e; cases e
        | ok M2 =>
          rw [er, ok_b] at e
          cases eb : (lSole ls M (A k).2.1 && (List.range nn).all (fun j => j == k || !mtB (A j).2.1 (A k).2.1)) with
          | false => rw [eb] at e; cases e
          | true => rw [eb] at e; cases e; exact hr _ er
      obtain ⟨z3, g', s1, s2, s3, s4⟩ := nx z2 _ (orO (((List.range k).map A).filter (fun s => hdT s.1 == 9)) ||| (A k).2.1) q2 hr2 q3 q4 (by rw [rngm, flt_a, if_pos c, orO_a])
      refine ⟨z3, g', s1, ?_, s3, s4⟩
      have eg : argG ls M nn A k = (lSole ls M (A k).2.1 && (List.range nn).all (fun j => j == k || !mtB (A j).2.1 (A k).2.1)) := by
        unfold argG
        rw [show (hdT (A k).1 != 9) = false from by simp [c], Bool.false_or]
      rw [rng_a, eg]
      simp only [bA, ok_b, nd_and] at s2
      exact s2
    · rw [show (hdT (A k).1 == 9) = false from beq_eq_false_iff_ne.mpr c, if_pos (show bI false = 0 from rfl)]
      obtain ⟨z3, g', s1, s2, s3, s4⟩ := nx z1 rr _ T hr FrQc.rfl' Fr4.rfl' (by rw [rngm, flt_a, if_neg c, List.append_nil])
      refine ⟨z3, g', s1, ?_, s3, s4⟩
      have eg : argG ls M nn A k = true := by
        unfold argG
        rw [show (hdT (A k).1 != 9) = true from by simp [c], Bool.true_or]
      rw [rng_a, eg, Bool.true_and]
      exact s2
theorem e13 (hu : ∀ z', FrQc z z' → CnL F sh n z' kp U) (hm : MdO U) {a : Nat} (ha : a < faOf U) (V : Int32) : ∀ r g z1 rr, r ≤ (tksOf U a).length → r < g → CR sh n z1 kp f ls U.1.2.2 rr → FrQc z z1 → ∃ z' g', fn_X3_enter_L13 F sh n 62 (nI a) V g z1 (nI r - 1) = fn_X3_enter_L13 F sh n 62 (nI a) V (g' + 1) z' (nI 0 - 1) ∧ CR sh n z' kp f ls U.1.2.2 (rr >>= aTakes ((tksOf U a).reverse.drop ((tksOf U a).length - r))) ∧ FrQc z1 z' ∧ Fr3 z1 z' := by
  obtain ⟨f8, t8, g8, tt, tg⟩ := hm.2.2.2.2 a ha
  intro r
  induction r with
  | zero =>
    intro g z1 rr ep hg T fz
    obtain ⟨g, rfl⟩ : ∃ q, g = q + 1 := ⟨g - 1, by omega⟩
    refine ⟨z1, g, rfl, ?_, FrQc.rfl', Fr3.rfl'⟩
    rw [List.drop_eq_nil_of_le (by rw [List.length_reverse]; omega)]
    cases rr <;> exact T
  | succ r ih =>
    intro g z1 rr ep hg T fz
    obtain ⟨g, rfl⟩ : ∃ q, g = q + 1 := ⟨g - 1, by omega⟩
    have un := hu z1 fz
    have hb : r < (tksOf U a).length := by omega
    have pl := tt _ (getD_mem hb)
    obtain ⟨z2, p1, p2, p3⟩ := T.only (F := F) (t := (tksOf U a).getD r []) (x := tL ((tksOf U a).getD r [])) (fun _ _ => ⟨pl.1.1, rfl⟩)
    have p4 := T.only_r p1
    obtain ⟨z3, g', s1, s2, s3, s4⟩ := ih g z2 _ (by omega) (by omega) p2 (fz.trans p3)
    refine ⟨z3, g', ?_, ?_, p3.trans s3, p4.trans s4⟩
    · rw [← s1, dwn']
      conv => lhs; unfold fn_X3_enter_L13
      rw [if_neg (show ¬ nI r < 0 from (oI0 r (by omega)).2), T.lk, lnk_s, un.1, grd_true, ((un.2.1 a ha).2.1) r hb, cal_s, p1, cal_s, Int32.sub_eq_add_neg]
    · have hr : (tksOf U a).length - (r + 1) < (tksOf U a).reverse.length := by rw [List.length_reverse]; omega
      have eg : (tksOf U a).reverse.getD ((tksOf U a).length - (r + 1)) [] = (tksOf U a).getD r [] := by
        rw [List.getD_eq_getElem?_getD, List.getD_eq_getElem?_getD, List.getElem?_reverse (by omega), show (tksOf U a).length - 1 - ((tksOf U a).length - (r + 1)) = r by omega]
      rw [drop_get hr, eg, show (tksOf U a).length - (r + 1) + 1 = (tksOf U a).length - r by omega]
      rw [px_assoc rr] at s2
      exact s2
theorem e220 (hF : 300 ≤ F) (hu : ∀ z', FrQc z z' → CnL F sh n z' kp U) (hm : MdO U) {a : Nat} (ha : a < faOf U) (x y : Int64) : ∀ r p g z1 rr, p + r = (gvsOf U a).length → r < g → CR sh n z1 kp f ls U.1.2.2 rr → FrQc z z1 → ∃ z', fn_X3_enter_L220 F sh n 62 (nI a) x y g z1 (nI p) = some (z', ()) ∧ CR sh n z' kp f ls U.1.2.2 (rr >>= aGives (((gvsOf U a).drop p).map (fun t => (t, rO t (if hdT t = 9 then y else x), rI t true)))) ∧ FrQc z1 z' := by
  obtain ⟨f8, t8, g8, tt, tg⟩ := hm.2.2.2.2 a ha
  intro r
  induction r with
  | zero =>
    intro p g z1 rr ep hg T fz
    obtain ⟨g, rfl⟩ : ∃ q, g = q + 1 := ⟨g - 1, by omega⟩
    have un := hu z1 fz
    obtain ⟨⟨m0, m1, mf⟩, mt, mg⟩ := un.2.1 a ha
    conv => enter [1, z', 1, 1]; unfold fn_X3_enter_L220
    rw [T.lk, lnk_s, un.1, grd_true, m1, cal_s, if_pos ((nI_leI (by omega) (by omega)).mpr (by omega))]
    refine ⟨z1, rfl, ?_, FrQc.rfl'⟩
    rw [List.drop_eq_nil_of_le (by omega)]
    cases rr <;> exact T
  | succ r ih =>
    intro p g z1 rr ep hg T fz
    obtain ⟨g, rfl⟩ : ∃ q, g = q + 1 := ⟨g - 1, by omega⟩
    have un := hu z1 fz
    obtain ⟨⟨m0, m1, mf⟩, mt, mg⟩ := un.2.1 a ha
    have hp : p < (gvsOf U a).length := by omega
    have tp := tg _ (getD_mem hp)
    have nx : ∀ o, o = rO ((gvsOf U a).getD p []) (if hdT ((gvsOf U a).getD p []) = 9 then y else x) → ∃ z', fn_X3_enter_B279 F sh n 62 (tL ((gvsOf U a).getD p [])) (bI (isR ((gvsOf U a).getD p []))) (nI p) (fun z9 q8 => fn_X3_enter_L220 F sh n 62 (nI a) x y g z9 q8) z1 o = some (z', ()) ∧ CR sh n z' kp f ls U.1.2.2 (rr >>= aGives (((gvsOf U a).drop p).map (fun t => (t, rO t (if hdT t = 9 then y else x), rI t true)))) ∧ FrQc z1 z' := fun o eo => by
      obtain ⟨z2, p1, p2, p3⟩ := T.putR (F := F) (t := (gvsOf U a).getD p []) (x := tL ((gvsOf U a).getD p [])) (o := o) (b := isR ((gvsOf U a).getD p [])) (fun M _ => ⟨tp.1, rfl, fun q => by rw [eo, q]; unfold rO; rw [q]; exact ⟨rfl, rfl⟩⟩)
      obtain ⟨z3, s1, s2, s3⟩ := ih (p + 1) g z2 _ (by omega) (by omega) p2 (fz.trans p3)
      unfold fn_X3_enter_B279
      rw [p1, cal_s, nI_1]
      refine ⟨z3, s1, ?_, p3.trans s3⟩
      have ei : rI ((gvsOf U a).getD p []) true = isR ((gvsOf U a).getD p []) := by unfold rI; rw [Bool.and_true]
      rw [drop_get hp, List.map_cons, ← eo, ei]
      rw [px_assoc rr] at s2
      exact s2
    conv => enter [1, z', 1, 1]; unfold fn_X3_enter_L220
    rw [T.lk, lnk_s, un.1, grd_true, m1, cal_s, if_neg (fun q => by have := (nI_leI (by omega) (by omega)).mp q; omega), T.lk, lnk_s, un.1, grd_true, mg p hp, cal_s, isRefC_t hF tp.1.1, cal_s]
    cases er : isR ((gvsOf U a).getD p []) with
    | false =>
      have n1 := nx 0 (by unfold rO; rw [er]; rfl)
      rw [er] at n1
      rw [if_pos (show bI false = 0 from rfl)]
      exact n1
    | true =>
      rw [if_neg (show ¬ bI true = 0 from one0), writesC_t hF tp.1.1, cal_s]
      by_cases c : hdT ((gvsOf U a).getD p []) = 9
      · have n1 := nx y (by unfold rO; rw [er, if_pos c]; rfl)
        rw [er] at n1
        rw [show (hdT ((gvsOf U a).getD p []) == 9) = true from beq_iff_eq.mpr c, if_neg (show ¬ bI true = 0 from one0)]
        exact n1
      · have n1 := nx x (by unfold rO; rw [er, if_neg c]; rfl)
        rw [er] at n1
        rw [show (hdT ((gvsOf U a).getD p []) == 9) = false from beq_eq_false_iff_ne.mpr c, if_pos (show bI false = 0 from rfl)]
        exact n1
end
